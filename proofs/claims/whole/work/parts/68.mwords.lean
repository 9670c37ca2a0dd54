abbrev b_Model_isKept : ByteArray := prog_14_method_10_code
abbrev y_Model_isKept : MethodName := ⟨R_Model, "isKept", "(J)Z"⟩
theorem co_Model_isKept : Cond.code y_Model_isKept b_Model_isKept 5 (some .boolean) ∈ lw_good := lg_in (tin_10 _ (List.mem_of_getElem? (i := 161) rfl)) rfl
abbrev w_Model_isKept : List Cond := Cond.code y_Model_isKept b_Model_isKept 5 (some .boolean) :: lw_good
theorem st_Model_isKept : Cond.static y_Model_isKept ∈ lw_good := lg_right (i := 2320) (by decide +kernel) rfl
theorem d_Model_isKept_0 : decode b_Model_isKept 0 = .ok (.lconst 0, 1) := by decide +kernel
theorem d_Model_isKept_1 : decode b_Model_isKept 1 = .ok (.lstore_n 2, 1) := by decide +kernel
theorem d_Model_isKept_2 : decode b_Model_isKept 2 = .ok (.iconst 0, 1) := by decide +kernel
theorem d_Model_isKept_3 : decode b_Model_isKept 3 = .ok (.istore 4, 2) := by decide +kernel
theorem d_Model_isKept_5 : decode b_Model_isKept 5 = .ok (.iload 4, 2) := by decide +kernel
theorem d_Model_isKept_7 : decode b_Model_isKept 7 = .ok (.ldc_w 340, 3) := by decide +kernel
theorem d_Model_isKept_10 : decode b_Model_isKept 10 = .ok (.invokevirtual 330, 3) := by decide +kernel
theorem d_Model_isKept_13 : decode b_Model_isKept 13 = .ok (.if_icmp .ge 50, 3) := by decide +kernel
theorem d_Model_isKept_16 : decode b_Model_isKept 16 = .ok (.ldc_w 340, 3) := by decide +kernel
theorem d_Model_isKept_19 : decode b_Model_isKept 19 = .ok (.iload 4, 2) := by decide +kernel
theorem d_Model_isKept_21 : decode b_Model_isKept 21 = .ok (.invokevirtual 336, 3) := by decide +kernel
theorem d_Model_isKept_24 : decode b_Model_isKept 24 = .ok (.bipush 32, 2) := by decide +kernel
theorem d_Model_isKept_26 : decode b_Model_isKept 26 = .ok (.if_icmp .eq 21, 3) := by decide +kernel
theorem d_Model_isKept_29 : decode b_Model_isKept 29 = .ok (.lload_n 2, 1) := by decide +kernel
theorem d_Model_isKept_30 : decode b_Model_isKept 30 = .ok (.bipush 8, 2) := by decide +kernel
theorem d_Model_isKept_32 : decode b_Model_isKept 32 = .ok (.lshl, 1) := by decide +kernel
theorem d_Model_isKept_33 : decode b_Model_isKept 33 = .ok (.ldc_w 340, 3) := by decide +kernel
theorem d_Model_isKept_36 : decode b_Model_isKept 36 = .ok (.iload 4, 2) := by decide +kernel
theorem d_Model_isKept_38 : decode b_Model_isKept 38 = .ok (.invokevirtual 336, 3) := by decide +kernel
theorem d_Model_isKept_41 : decode b_Model_isKept 41 = .ok (.i2l, 1) := by decide +kernel
theorem d_Model_isKept_42 : decode b_Model_isKept 42 = .ok (.lor, 1) := by decide +kernel
theorem d_Model_isKept_43 : decode b_Model_isKept 43 = .ok (.lstore_n 2, 1) := by decide +kernel
theorem d_Model_isKept_44 : decode b_Model_isKept 44 = .ok (.goto 13, 3) := by decide +kernel
theorem d_Model_isKept_47 : decode b_Model_isKept 47 = .ok (.lload_n 2, 1) := by decide +kernel
theorem d_Model_isKept_48 : decode b_Model_isKept 48 = .ok (.lload_n 0, 1) := by decide +kernel
theorem d_Model_isKept_49 : decode b_Model_isKept 49 = .ok (.lcmp, 1) := by decide +kernel
theorem d_Model_isKept_50 : decode b_Model_isKept 50 = .ok (.ifCond .ne 5, 3) := by decide +kernel
theorem d_Model_isKept_53 : decode b_Model_isKept 53 = .ok (.iconst 1, 1) := by decide +kernel
theorem d_Model_isKept_54 : decode b_Model_isKept 54 = .ok (.ireturn, 1) := by decide +kernel
theorem d_Model_isKept_55 : decode b_Model_isKept 55 = .ok (.lconst 0, 1) := by decide +kernel
theorem d_Model_isKept_56 : decode b_Model_isKept 56 = .ok (.lstore_n 2, 1) := by decide +kernel
theorem d_Model_isKept_57 : decode b_Model_isKept 57 = .ok (.iinc 4 1, 3) := by decide +kernel
theorem d_Model_isKept_60 : decode b_Model_isKept 60 = .ok (.goto (-55), 3) := by decide +kernel
theorem d_Model_isKept_63 : decode b_Model_isKept 63 = .ok (.iconst 0, 1) := by decide +kernel
theorem d_Model_isKept_64 : decode b_Model_isKept 64 = .ok (.ireturn, 1) := by decide +kernel
theorem kcur_s {k : Nat} (h : s_ch 4 k = 32) : kcur (k + 1) = 0 := if_pos h
theorem kcur_n {k : Nat} (h : ¬ s_ch 4 k = 32) : kcur (k + 1) = (kcur k <<< ((8 : Int32).toInt64 &&& 63)) ||| (s_ch 4 k).toInt64 := if_neg h
theorem ff_yes1 {p : Nat → Bool} {i k : Nat} (h : p i = true) (hk : 0 < k) (hi : i < 2 ^ 31) : ¬ ff p i k = -1 := by
  rw [ff_yes h hk]
  exact fun q => absurd (q ▸ nI_pos hi : ¬ (-1 : Int32) < 0) (by decide)
set_option maxHeartbeats 1000000 in
set_option maxRecDepth 100000 in
theorem c_Model_packed_l (l : Launch) (dC : Nat → ClassId) (dI : Nat → Nat → Nat)  (ad : Nat → Nat) (av : Nat → Nat) (i : Nat) (hi : i < 33) : Met l y_Model_packed w_Model_packed ({ frames := 4, cells := 0, slots := 0, locals := 85 } : Room) (va_Pc [.ref (ad i)] (fun U => va_P (dC, dI) cls_all [] U.heap ∧ va_K (dC, dI) cls_all [] U ∧ env0 ad av (fun _ => False) U U.heap)) (vp_Sl (fun r : Int64 => (r = pks i (s_len.getD i 0)))) 0 0 (fun _ => False) := by
  refine Met.ofW (cc := b_Model_packed) (maxL := 4) (ret := (some .long)) (by decide) rfl ?_
  intro p e s m args below meth c s₁ B hml hv
  obtain ⟨rfl, hP, hK, henv⟩ := hv
  have hx := B.exec
  have hb := B.bytes
  have hr := B.returns
  have hT : ∀ w ∈ lw_good, w.before _ s = true := fun w h => atoms_spec (ws := w_Model_packed) B.pre w (List.mem_cons_of_mem _ h)
  have hown : s.vm.findClass R_Model = some m.cls := findClass_of_methodNamed B.named
  have hlocks := B.notSynchronized
  have hS : va_S (fun _ => False) s.heap s.heap [] := va_S.rf
  have hl := lv_entry ([.ref (ad i)]) (n := 4) (Nat.le_of_ble_eq_true rfl)
  rw [lg_entry_eq]
  generalize (lg_sl ([.ref (ad i)]) ++ List.replicate (4 - (lg_sl ([.ref (ad i)])).length) Slot.unset).toArray = ls at hl ⊢
  have hl : lv_has ls 4 [(0, .ref (ad i))] := hl
  have hl31 : s_len.getD i 0 < 2 ^ 31 := s_l31 i hi
  refine lv_lconst (v := 0) hx hb d_Model_packed_0 (by decide) ?_
  refine lv_lstore_n (lv' := [(1, .long 0), (0, .ref (ad i))]) hx hb d_Model_packed_1 rfl hl (by decide) rfl (fun ls hl => ?_)
  refine lv_iconst (v := 0) hx hb d_Model_packed_2 (by decide) ?_
  refine lv_istore_n (lv' := [(3, .int 0), (1, .long 0), (0, .ref (ad i))]) hx hb d_Model_packed_3 rfl hl (by decide) rfl (fun ls hl => ?_)
  have loop : ∀ (nn : Nat) (k : Nat), k ≤ s_len.getD i 0 → s_len.getD i 0 - k < nn → ∀ (ls : Array Slot), lv_has ls 4 [(3, .int (nI (k))), (1, .long (pks i k)), (0, .ref (ad i))] → W p l e (headSpec w_Model_packed ({ frames := 4, cells := 0, slots := 0, locals := 85 } : Room)).room s m ([.ref (ad i)] : List Value).toArray below meth c s.heap [] 0 0 (MQ below (vp_Sl (fun r : Int64 => (r = pks i (s_len.getD i 0)))) ([.ref (ad i)] : List Value).toArray s 0 0 (fun _ => False)) (F0 m 4 ls []) := by
    clear hl
    intro nn
    induction nn with
    | zero => intro k hk hn ls hl; exfalso; omega
    | succ nn ih =>
      intro k hk hn ls hl
      refine lv_iload_n hx hb d_Model_packed_4 rfl (lv_at hl 0 rfl) ?_
      refine lv_aload_n hx hb d_Model_packed_5 rfl (lv_at hl 2 rfl) ?_
      have hPc := hP.sub (ws' := []) [] rfl
      have hKc := hK.sub (tys' := []) [] rfl
      refine vp_callSi (va_Run.run (va_runV (As := []) (rest := [.int (nI (k))]) ⟨hx, hb, hml, hown, hT⟩ (c_Str_length_l l dC dI (ad := ad) (av := av) (i := i) (hi := hi)) (cwV 0 hT (gV ml_Model_330 im_Str_length se_Str_length ini_Str co_Str_length) rfl rfl rfl (by decide +kernel) ⟨Nat.le_of_ble_eq_true rfl, Nat.le_of_ble_eq_true rfl⟩) ⟨fbSe, (env_recv henv hi hS), fun U hU hW => ⟨rfl, by rw [hU]; exact hPc, va_K.moved hW.alike hKc, env0.hand henv hS hU hW (fun q h => h.elim)⟩⟩ rfl rfl hl.1 rfl (lv_room (Nat.le_of_ble_eq_true rfl)) d_Model_packed_6 ⟨Nat.le_of_ble_eq_true rfl, Nat.le_of_ble_eq_true rfl⟩)) (fun r1 hr1 => ?_)
      obtain rfl := hr1
      refine lv_icmp_ge (tgt := 30) hx hb d_Model_packed_9 (by decide) (fun c2 => ?_) (fun c2 => ?_)
      · have b2 : ((s_len.getD i 0)) ≤ ((k)) := (ni_le (by omega) (by omega)).1 c2
        refine lv_lload_n hx hb d_Model_packed_30 rfl (lv_at hl 1 rfl) ?_
        refine W.lret (v := (pks i k)) hx hb hr (fun t ht hW => ⟨(pks i k), rfl, ?_, ht⟩) (fun q h => by cases h) d_Model_packed_31
        exact congrArg (pks i) (by omega)
      · have b2 : ((k)) < ((s_len.getD i 0)) := (ni_le (by omega) (by omega)).2 c2
        refine lv_lload_n hx hb d_Model_packed_12 rfl (lv_at hl 1 rfl) ?_
        refine lv_bipush (v := 8) hx hb d_Model_packed_13 (by decide) ?_
        obtain ⟨x3, e3⟩ : ∃ z : Int64, (pks i k) <<< ((8 : Int32).toInt64 &&& 63) = z := ⟨_, rfl⟩
        refine lv_lshl (v := x3) hx hb d_Model_packed_15 e3 ?_
        refine lv_aload_n hx hb d_Model_packed_16 rfl (lv_at hl 2 rfl) ?_
        refine lv_iload_n hx hb d_Model_packed_17 rfl (lv_at hl 0 rfl) ?_
        have hPc := hP.sub (ws' := []) [] rfl
        have hKc := hK.sub (tys' := []) [] rfl
        refine vp_callSi (va_Run.run (va_runV (As := [.int (nI (k))]) (rest := [.long x3]) ⟨hx, hb, hml, hown, hT⟩ (c_Str_charAt_l l dC dI (ad := ad) (av := av) (p1 := (nI (k))) (i := i) (hi := hi) (h1 := (nI_pos (by omega))) (h2 := (nI_lt (by omega) (by omega)))) (cwV 1 hT (gV ml_Model_336 im_Str_charAt se_Str_charAt ini_Str co_Str_charAt) rfl rfl rfl (by decide +kernel) ⟨Nat.le_of_ble_eq_true rfl, Nat.le_of_ble_eq_true rfl⟩) ⟨fbSe, (env_recv henv hi hS), fun U hU hW => ⟨rfl, by rw [hU]; exact hPc, va_K.moved hW.alike hKc, env0.hand henv hS hU hW (fun q h => h.elim)⟩⟩ rfl rfl hl.1 rfl (lv_room (Nat.le_of_ble_eq_true rfl)) d_Model_packed_18 ⟨Nat.le_of_ble_eq_true rfl, Nat.le_of_ble_eq_true rfl⟩)) (fun r4 hr4 => ?_)
        obtain rfl : r4 = s_ch i k := hr4.trans (by rw [nI_clamp (by omega)])
        obtain ⟨x5, e5⟩ : ∃ z : Int64, ((s_ch i k) : Int32).toInt64 = z := ⟨_, rfl⟩
        refine lv_i2l (v := x5) hx hb d_Model_packed_21 e5 ?_
        refine lv_lor hx hb d_Model_packed_22 ?_
        refine lv_topl (fun x6 e6 => ?_)
        obtain rfl : x6 = pks i (k + 1) := by rw [e6, ← e3, ← e5]; rfl
        refine lv_lstore_n (lv' := [(1, .long (pks i (k + 1))), (3, .int (nI (k))), (0, .ref (ad i))]) hx hb d_Model_packed_23 rfl hl (by decide) rfl (fun ls hl => ?_)
        refine lv_iinc (v := (nI (k + 1))) (lv' := [(3, .int (nI (k + 1))), (1, .long (pks i (k + 1))), (0, .ref (ad i))]) hx hb d_Model_packed_24 hl (k := 1) rfl (nI_add (k) 1) (by decide) rfl (fun ls hl => ?_)
        refine lv_goto (tgt := 4) hx hb d_Model_packed_27 (by decide) ?_
        exact ih (k + 1) (by omega) (by omega) ls (lv_sub hl [0, 1, 2] rfl)
  exact loop (s_len.getD i 0 + 1) 0 (by omega) (by omega) ls (lv_sub hl [0, 1, 2] rfl)
set_option maxHeartbeats 1000000 in
set_option maxRecDepth 100000 in
theorem c_Model_isKept (l : Launch) (dC : Nat → ClassId) (dI : Nat → Nat → Nat)  (ad : Nat → Nat) (av : Nat → Nat) (p1 : Int64) : Met l y_Model_isKept w_Model_isKept ({ frames := 4, cells := 0, slots := 0, locals := 85 } : Room) (va_Pc [.long p1] (fun U => va_P (dC, dI) cls_all [] U.heap ∧ va_K (dC, dI) cls_all [] U ∧ env0 ad av (fun _ => False) U U.heap)) (vp_Si (fun r : Int32 => (r = if ff (khit p1) 0 133 = -1 then 0 else 1))) 0 0 (fun _ => False) := by
  refine Met.ofW (cc := b_Model_isKept) (maxL := 5) (ret := (some .boolean)) (by decide) rfl ?_
  intro p e s m args below meth c s₁ B hml hv
  obtain ⟨rfl, hP, hK, henv⟩ := hv
  have hx := B.exec
  have hb := B.bytes
  have hr := B.returns
  have hT : ∀ w ∈ lw_good, w.before _ s = true := fun w h => atoms_spec (ws := w_Model_isKept) B.pre w (List.mem_cons_of_mem _ h)
  have hown : s.vm.findClass R_Model = some m.cls := findClass_of_methodNamed B.named
  have hlocks := B.notSynchronized
  have hS : va_S (fun _ => False) s.heap s.heap [] := va_S.rf
  have hl := lv_entry ([.long p1]) (n := 5) (Nat.le_of_ble_eq_true rfl)
  rw [lg_entry_eq]
  generalize (lg_sl ([.long p1]) ++ List.replicate (5 - (lg_sl ([.long p1])).length) Slot.unset).toArray = ls at hl ⊢
  have hl : lv_has ls 5 [(0, .long p1)] := hl
  refine lv_lconst (v := 0) hx hb d_Model_isKept_0 (by decide) ?_
  refine lv_lstore_n (lv' := [(2, .long 0), (0, .long p1)]) hx hb d_Model_isKept_1 rfl hl (by decide) rfl (fun ls hl => ?_)
  refine lv_iconst (v := 0) hx hb d_Model_isKept_2 (by decide) ?_
  refine lv_istore (lv' := [(4, .int 0), (2, .long 0), (0, .long p1)]) hx hb d_Model_isKept_3 hl (by decide) rfl (fun ls hl => ?_)
  have loop : ∀ (nn : Nat) (k : Nat), k ≤ 133 → ff (khit p1) 0 133 = ff (khit p1) k (133 - k) → 133 - k < nn → ∀ (ls : Array Slot), lv_has ls 5 [(4, .int (nI (k))), (2, .long (kcur k)), (0, .long p1)] → W p l e (headSpec w_Model_isKept ({ frames := 4, cells := 0, slots := 0, locals := 85 } : Room)).room s m ([.long p1] : List Value).toArray below meth c s.heap [] 0 0 (MQ below (vp_Si (fun r : Int32 => (r = if ff (khit p1) 0 133 = -1 then 0 else 1))) ([.long p1] : List Value).toArray s 0 0 (fun _ => False)) (F0 m 5 ls []) := by
    clear hl
    intro nn
    induction nn with
    | zero => intro k hk he hn ls hl; exfalso; omega
    | succ nn ih =>
      intro k hk he hn ls hl
      refine lv_iload hx hb d_Model_isKept_5 (lv_at hl 0 rfl) ?_
      refine va_ldcwS (own := R_Model) (index := 340) (q := ad 4) hx hb hown (henv.2.2 4 (by decide)).2 d_Model_isKept_7 ?_
      have hPc := hP.sub (ws' := []) [] rfl
      have hKc := hK.sub (tys' := []) [] rfl
      refine vp_callSi (va_Run.run (va_runV (As := []) (rest := [.int (nI (k))]) ⟨hx, hb, hml, hown, hT⟩ (c_Str_length_l l dC dI (ad := ad) (av := av) (i := 4) (hi := (by decide))) (cwV 0 hT (gV ml_Model_330 im_Str_length se_Str_length ini_Str co_Str_length) rfl rfl rfl (by decide +kernel) ⟨Nat.le_of_ble_eq_true rfl, Nat.le_of_ble_eq_true rfl⟩) ⟨fbSe, (env_recv henv (by decide) hS), fun U hU hW => ⟨rfl, by rw [hU]; exact hPc, va_K.moved hW.alike hKc, env0.hand henv hS hU hW (fun q h => h.elim)⟩⟩ rfl rfl hl.1 rfl (lv_room (Nat.le_of_ble_eq_true rfl)) d_Model_isKept_10 ⟨Nat.le_of_ble_eq_true rfl, Nat.le_of_ble_eq_true rfl⟩)) (fun r1 hr1 => ?_)
      obtain rfl : r1 = nI 133 := hr1.trans rfl
      refine lv_icmp_ge (tgt := 63) hx hb d_Model_isKept_13 (by decide) (fun c2 => ?_) (fun c2 => ?_)
      · have b2 : (133) ≤ ((k)) := (ni_le (by omega) (by omega)).1 c2
        refine lv_iconst (v := 0) hx hb d_Model_isKept_63 (by decide) ?_
        refine W.zret (v := 0) hx hb hr (by first | rfl | decide | assumption) (fun t ht hW => ⟨0, rfl, ?_, ht⟩) (fun q h => by cases h) d_Model_isKept_64
        rw [he, show 133 - k = 0 by omega]; rfl
      · have b2 : ((k)) < (133) := (ni_le (by omega) (by omega)).2 c2
        refine va_ldcwS (own := R_Model) (index := 340) (q := ad 4) hx hb hown (henv.2.2 4 (by decide)).2 d_Model_isKept_16 ?_
        refine lv_iload hx hb d_Model_isKept_19 (lv_at hl 0 rfl) ?_
        have hPc := hP.sub (ws' := []) [] rfl
        have hKc := hK.sub (tys' := []) [] rfl
        refine vp_callSi (va_Run.run (va_runV (As := [.int (nI (k))]) (rest := []) ⟨hx, hb, hml, hown, hT⟩ (c_Str_charAt_l l dC dI (ad := ad) (av := av) (p1 := (nI (k))) (i := 4) (hi := (by decide)) (h1 := (nI_pos (by omega))) (h2 := (show nI k < nI 133 from nI_lt (by omega) (by decide)))) (cwV 1 hT (gV ml_Model_336 im_Str_charAt se_Str_charAt ini_Str co_Str_charAt) rfl rfl rfl (by decide +kernel) ⟨Nat.le_of_ble_eq_true rfl, Nat.le_of_ble_eq_true rfl⟩) ⟨fbSe, (env_recv henv (by decide) hS), fun U hU hW => ⟨rfl, by rw [hU]; exact hPc, va_K.moved hW.alike hKc, env0.hand henv hS hU hW (fun q h => h.elim)⟩⟩ rfl rfl hl.1 rfl (lv_room (Nat.le_of_ble_eq_true rfl)) d_Model_isKept_21 ⟨Nat.le_of_ble_eq_true rfl, Nat.le_of_ble_eq_true rfl⟩)) (fun r3 hr3 => ?_)
        obtain rfl : r3 = s_ch 4 k := hr3.trans (by rw [nI_clamp (by omega)])
        refine lv_bipush (v := 32) hx hb d_Model_isKept_24 (by decide) ?_
        refine lv_icmp_eq (tgt := 47) hx hb d_Model_isKept_26 (by decide) (fun c4 => ?_) (fun c4 => ?_)
        · refine lv_lload_n hx hb d_Model_isKept_47 rfl (lv_at hl 1 rfl) ?_
          refine lv_lload_n hx hb d_Model_isKept_48 rfl (lv_at hl 2 rfl) ?_
          refine W.lcmp hx hb d_Model_isKept_49 ?_
          refine lv_if_ne (tgt := 55) hx hb d_Model_isKept_50 (by decide) (fun c5 => ?_) (fun c5 => ?_)
          · refine lv_lconst (v := 0) hx hb d_Model_isKept_55 (by decide) ?_
            refine lv_lstore_n (lv' := [(2, .long 0), (4, .int (nI (k))), (0, .long p1)]) hx hb d_Model_isKept_56 rfl hl (by decide) rfl (fun ls hl => ?_)
            refine lv_iinc (v := (nI (k + 1))) (lv' := [(4, .int (nI (k + 1))), (2, .long 0), (0, .long p1)]) hx hb d_Model_isKept_57 hl (k := 1) rfl (nI_add (k) 1) (by decide) rfl (fun ls hl => ?_)
            refine lv_goto (tgt := 5) hx hb d_Model_isKept_60 (by decide) ?_
            have hl : lv_has ls 5 [(4, .int (nI (k + 1))), (2, .long (kcur (k + 1))), (0, .long p1)] := by rw [kcur_s c4]; exact hl
            have hno : ¬ khit p1 k = true := fun q => by (simp only [khit, Bool.and_eq_true, decide_eq_true_eq] at q); exact c5 ((lg_cmp_eq _ _).mpr q.2)
            exact ih (k + 1) (by omega) (he.trans ((ff_no hno (by omega)).trans (congrArg _ (by omega)))) (by omega) ls (lv_sub hl [0, 1, 2] rfl)
          · refine lv_iconst (v := 1) hx hb d_Model_isKept_53 (by decide) ?_
            refine W.zret (v := 1) hx hb hr (by first | rfl | decide | assumption) (fun t ht hW => ⟨1, rfl, ?_, ht⟩) (fun q h => by cases h) d_Model_isKept_54
            rw [he]; exact (if_neg (ff_yes1 (by simp only [khit, Bool.and_eq_true, decide_eq_true_eq]; exact ⟨c4, (lg_cmp_eq _ _).mp c5⟩) (by omega) (by omega))).symm
        · refine lv_lload_n hx hb d_Model_isKept_29 rfl (lv_at hl 1 rfl) ?_
          refine lv_bipush (v := 8) hx hb d_Model_isKept_30 (by decide) ?_
          obtain ⟨x6, e6⟩ : ∃ z : Int64, (kcur k) <<< ((8 : Int32).toInt64 &&& 63) = z := ⟨_, rfl⟩
          refine lv_lshl (v := x6) hx hb d_Model_isKept_32 e6 ?_
          refine va_ldcwS (own := R_Model) (index := 340) (q := ad 4) hx hb hown (henv.2.2 4 (by decide)).2 d_Model_isKept_33 ?_
          refine lv_iload hx hb d_Model_isKept_36 (lv_at hl 0 rfl) ?_
          have hPc := hP.sub (ws' := []) [] rfl
          have hKc := hK.sub (tys' := []) [] rfl
          refine vp_callSi (va_Run.run (va_runV (As := [.int (nI (k))]) (rest := [.long x6]) ⟨hx, hb, hml, hown, hT⟩ (c_Str_charAt_l l dC dI (ad := ad) (av := av) (p1 := (nI (k))) (i := 4) (hi := (by decide)) (h1 := (nI_pos (by omega))) (h2 := (show nI k < nI 133 from nI_lt (by omega) (by decide)))) (cwV 1 hT (gV ml_Model_336 im_Str_charAt se_Str_charAt ini_Str co_Str_charAt) rfl rfl rfl (by decide +kernel) ⟨Nat.le_of_ble_eq_true rfl, Nat.le_of_ble_eq_true rfl⟩) ⟨fbSe, (env_recv henv (by decide) hS), fun U hU hW => ⟨rfl, by rw [hU]; exact hPc, va_K.moved hW.alike hKc, env0.hand henv hS hU hW (fun q h => h.elim)⟩⟩ rfl rfl hl.1 rfl (lv_room (Nat.le_of_ble_eq_true rfl)) d_Model_isKept_38 ⟨Nat.le_of_ble_eq_true rfl, Nat.le_of_ble_eq_true rfl⟩)) (fun r7 hr7 => ?_)
          obtain rfl : r7 = s_ch 4 k := hr7.trans (by rw [nI_clamp (by omega)])
          obtain ⟨x8, e8⟩ : ∃ z : Int64, ((s_ch 4 k) : Int32).toInt64 = z := ⟨_, rfl⟩
          refine lv_i2l (v := x8) hx hb d_Model_isKept_41 e8 ?_
          refine lv_lor hx hb d_Model_isKept_42 ?_
          refine lv_topl (fun x9 e9 => ?_)
          obtain rfl : x9 = (kcur k <<< ((8 : Int32).toInt64 &&& 63)) ||| (s_ch 4 k).toInt64 := by rw [e9, ← e6, ← e8]
          refine lv_lstore_n (lv' := [(2, .long ((kcur k <<< ((8 : Int32).toInt64 &&& 63)) ||| (s_ch 4 k).toInt64)), (4, .int (nI (k))), (0, .long p1)]) hx hb d_Model_isKept_43 rfl hl (by decide) rfl (fun ls hl => ?_)
          refine lv_goto (tgt := 57) hx hb d_Model_isKept_44 (by decide) ?_
          refine lv_iinc (v := (nI (k + 1))) (lv' := [(4, .int (nI (k + 1))), (2, .long ((kcur k <<< ((8 : Int32).toInt64 &&& 63)) ||| (s_ch 4 k).toInt64)), (0, .long p1)]) hx hb d_Model_isKept_57 hl (k := 1) rfl (nI_add (k) 1) (by decide) rfl (fun ls hl => ?_)
          refine lv_goto (tgt := 5) hx hb d_Model_isKept_60 (by decide) ?_
          have hl : lv_has ls 5 [(4, .int (nI (k + 1))), (2, .long (kcur (k + 1))), (0, .long p1)] := by rw [kcur_n c4]; exact hl
          have hno : ¬ khit p1 k = true := fun q => by (simp only [khit, Bool.and_eq_true, decide_eq_true_eq] at q); exact c4 q.1
          exact ih (k + 1) (by omega) (he.trans ((ff_no hno (by omega)).trans (congrArg _ (by omega)))) (by omega) ls (lv_sub hl [0, 1, 2] rfl)
  exact loop 134 0 (by omega) rfl (by omega) ls (lv_sub hl [0, 1, 2] rfl)
set_option maxHeartbeats 1000000 in
set_option maxRecDepth 100000 in
theorem c_Model_regionOfItem (l : Launch) (dC : Nat → ClassId) (dI : Nat → Nat → Nat)  (h_this : Nat) (h_regions : Nat) (h_regionName : Nat) (fs_this : List Value) (k_regions : ClassId) (f_regions : Nat → Int32) (k_regionName : ClassId) (f_regionName : Nat → Int64) (p2 : Int64) (n : Nat) (a : Nat) (len_this : fs_this.length = 153) (g_this_regions : fs_this[15]? = some (.ref h_regions)) (g_this_regionName : fs_this[16]? = some (.ref h_regionName)) (hz : a < 24) (hm : f_regions a = nI n) (hq : n ≤ 3) : Met l y_Model_regionOfItem w_Model_regionOfItem ({ frames := 0, cells := 0, slots := 0, locals := 0 } : Room) (va_Pc [.ref h_this, .int (nI a), .long p2] (fun U => va_P (dC, dI) cls_all [oc h_this 12 fs_this, ic h_regions k_regions 24 f_regions, jc h_regionName k_regionName 72 f_regionName] U.heap ∧ va_K (dC, dI) cls_all [(k_regions, .int), (k_regionName, .long)] U)) (vp_Si (fun r : Int32 => (r = rq_up (ff (fun j => decide (f_regionName (3 * a + j) = p2)) 0 n)))) 0 0 (fun _ => False) := by
  refine Met.ofW (cc := b_Model_regionOfItem) (maxL := 5) (ret := (some .int)) (by decide) rfl ?_
  intro p e s m args below meth c s₁ B hml hv
  obtain ⟨rfl, hP, hK⟩ := hv
  have hx := B.exec
  have hb := B.bytes
  have hr := B.returns
  have hT : ∀ w ∈ lw_good, w.before _ s = true := fun w h => atoms_spec (ws := w_Model_regionOfItem) B.pre w (List.mem_cons_of_mem _ h)
  have hown : s.vm.findClass R_Model = some m.cls := findClass_of_methodNamed B.named
  have hlocks := B.notSynchronized
  have hl := lv_entry ([.ref h_this, .int (nI a), .long p2]) (n := 5) (Nat.le_of_ble_eq_true rfl)
  rw [lg_entry_eq]
  generalize (lg_sl ([.ref h_this, .int (nI a), .long p2]) ++ List.replicate (5 - (lg_sl ([.ref h_this, .int (nI a), .long p2])).length) Slot.unset).toArray = ls at hl ⊢
  have hl : lv_has ls 5 [(0, .ref h_this), (1, .int (nI a)), (2, .long p2)] := hl
  refine lv_iconst (v := 0) hx hb d_Model_regionOfItem_0 (by decide) ?_
  refine lv_istore (lv' := [(4, .int 0), (0, .ref h_this), (1, .int (nI a)), (2, .long p2)]) hx hb d_Model_regionOfItem_1 hl (by decide) rfl (fun ls hl => ?_)
  have loop : ∀ (nn : Nat) (i : Nat), i ≤ n → ff (fun j => decide (f_regionName (3 * a + j) = p2)) 0 n = ff (fun j => decide (f_regionName (3 * a + j) = p2)) i (n - i) → n - i < nn → ∀ (ls : Array Slot), lv_has ls 5 [(4, .int (nI (i))), (0, .ref h_this), (1, .int (nI a)), (2, .long p2)] → W p l e (headSpec w_Model_regionOfItem ({ frames := 0, cells := 0, slots := 0, locals := 0 } : Room)).room s m ([.ref h_this, .int (nI a), .long p2] : List Value).toArray below meth c s.heap [] 0 0 (MQ below (vp_Si (fun r : Int32 => (r = rq_up (ff (fun j => decide (f_regionName (3 * a + j) = p2)) 0 n)))) ([.ref h_this, .int (nI a), .long p2] : List Value).toArray s 0 0 (fun _ => False)) (F0 m 3 ls []) := by
    clear hl
    intro nn
    induction nn with
    | zero => intro i hi he hn ls hl; exfalso; omega
    | succ nn ih =>
      intro i hi he hn ls hl
      refine lv_iload hx hb d_Model_regionOfItem_3 (lv_at hl 0 rfl) ?_
      refine lv_aload_n hx hb d_Model_regionOfItem_5 rfl (lv_at hl 1 rfl) ?_
      refine va_get (D := (dC, dI)) (ci := 12) (v := .ref h_regions) (C := R_Model) (T := F_Model) (N := 153) hx hb hT i_Model hown hK hP 0 rfl rfl 15 (by decide) (hT _ fl_Model_27) (fun _ h9 => h9) g_this_regions d_Model_regionOfItem_6 ?_
      refine lv_iload_n hx hb d_Model_regionOfItem_9 rfl (lv_at hl 2 rfl) ?_
      refine va_iald hx hb hK hP 1 0 rfl rfl (vp_in_nI (by omega) (by decide)) d_Model_regionOfItem_10 ?_
      refine lv_topi (fun x1 e1 => ?_)
      obtain rfl : x1 = f_regions a := e1.trans (congrArg f_regions (nI_clamp (by omega)))
      refine W.eq (g2 := F0 m 11 ls [.int (nI n), .int (nI (i))]) (by rw [hm]) ?_
      refine lv_icmp_ge (tgt := 41) hx hb d_Model_regionOfItem_11 (by decide) (fun c2 => ?_) (fun c2 => ?_)
      · have b2 : (n) ≤ ((i)) := (ni_le (by omega) (by omega)).1 c2
        refine lv_iconst (v := (-1)) hx hb d_Model_regionOfItem_41 (by decide) ?_
        refine W.iret (v := (-1)) hx hb hr (fun t ht hW => ⟨(-1), rfl, ?_, ht⟩) (fun q h => by cases h) d_Model_regionOfItem_42
        rw [he, show n - i = 0 by omega]; rfl
      · have b2 : ((i)) < (n) := (ni_le (by omega) (by omega)).2 c2
        refine lv_aload_n hx hb d_Model_regionOfItem_14 rfl (lv_at hl 1 rfl) ?_
        refine va_get (D := (dC, dI)) (ci := 12) (v := .ref h_regionName) (C := R_Model) (T := F_Model) (N := 153) hx hb hT i_Model hown hK hP 0 rfl rfl 16 (by decide) (hT _ fl_Model_30) (fun _ h9 => h9) g_this_regionName d_Model_regionOfItem_15 ?_
        refine lv_iconst (v := 3) hx hb d_Model_regionOfItem_18 (by decide) ?_
        refine lv_iload_n hx hb d_Model_regionOfItem_19 rfl (lv_at hl 2 rfl) ?_
        refine lv_imul hx hb d_Model_regionOfItem_20 ?_
        refine lv_topi (fun x3 e3 => ?_)
        obtain rfl : x3 = nI (3 * a) := e3.trans (pk_mul 3 a)
        refine lv_iload hx hb d_Model_regionOfItem_21 (lv_at hl 0 rfl) ?_
        refine lv_iadd hx hb d_Model_regionOfItem_23 ?_
        refine lv_topi (fun x4 e4 => ?_)
        obtain rfl : x4 = nI ((3 * a) + (i)) := e4.trans (nI_add (3 * a) (i))
        refine va_lald hx hb hK hP 2 1 rfl rfl (vp_in_nI (by omega) (by decide)) d_Model_regionOfItem_24 ?_
        refine lv_topl (fun x5 e5 => ?_)
        obtain rfl : x5 = f_regionName ((3 * a) + (i)) := e5.trans (congrArg f_regionName (nI_clamp (by omega)))
        refine lv_lload_n hx hb d_Model_regionOfItem_25 rfl (lv_at hl 3 rfl) ?_
        refine W.lcmp hx hb d_Model_regionOfItem_26 ?_
        refine lv_if_ne (tgt := 35) hx hb d_Model_regionOfItem_27 (by decide) (fun c6 => ?_) (fun c6 => ?_)
        · refine lv_iinc (v := (nI (i + 1))) (lv' := [(4, .int (nI (i + 1))), (0, .ref h_this), (1, .int (nI a)), (2, .long p2)]) hx hb d_Model_regionOfItem_35 hl (k := 0) rfl (nI_add (i) 1) (by decide) rfl (fun ls hl => ?_)
          refine lv_goto (tgt := 3) hx hb d_Model_regionOfItem_38 (by decide) ?_
          have hno : ¬ (fun j => decide (f_regionName (3 * a + j) = p2)) i = true := fun q => c6 ((lg_cmp_eq _ _).mpr (of_decide_eq_true q))
          exact ih (i + 1) (by omega) (he.trans ((ff_no hno (by omega)).trans (congrArg _ (by omega)))) (by omega) ls (lv_sub hl [0, 1, 2, 3] rfl)
        · refine lv_iload hx hb d_Model_regionOfItem_30 (lv_at hl 0 rfl) ?_
          refine lv_iconst (v := 1) hx hb d_Model_regionOfItem_32 (by decide) ?_
          refine lv_iadd hx hb d_Model_regionOfItem_33 ?_
          refine lv_topi (fun x7 e7 => ?_)
          obtain rfl : x7 = nI ((i) + 1) := e7.trans (nI_add (i) 1)
          refine W.iret (v := (nI ((i) + 1))) hx hb hr (fun t ht hW => ⟨(nI ((i) + 1)), rfl, ?_, ht⟩) (fun q h => by cases h) d_Model_regionOfItem_34
          rw [he, ff_yes (decide_eq_true ((lg_cmp_eq _ _).mp c6)) (by omega)]; unfold rq_up; rw [if_neg (nI_m1 (by omega))]; exact (nI_add i 1).symm
  exact loop (n + 1) 0 (by omega) rfl (by omega) ls (lv_sub hl [0, 1, 2, 3] rfl)
set_option maxHeartbeats 1000000 in
set_option maxRecDepth 100000 in
theorem c_Model_findRegion (l : Launch) (dC : Nat → ClassId) (dI : Nat → Nat → Nat)  (h_this : Nat) (h_seenName : Nat) (h_seenCode : Nat) (fs_this : List Value) (k_seenName : ClassId) (f_seenName : Nat → Int64) (k_seenCode : ClassId) (f_seenCode : Nat → Int32) (p1 : Int64) (n : Nat) (len_this : fs_this.length = 153) (g_this_seenRegions : fs_this[71]? = some (.int (nI n))) (g_this_seenName : fs_this[72]? = some (.ref h_seenName)) (g_this_seenCode : fs_this[73]? = some (.ref h_seenCode)) (hz : n ≤ 12) : Met l y_Model_findRegion w_Model_findRegion ({ frames := 0, cells := 0, slots := 0, locals := 0 } : Room) (va_Pc [.ref h_this, .long p1] (fun U => va_P (dC, dI) cls_all [oc h_this 12 fs_this, jc h_seenName k_seenName 12 f_seenName, ic h_seenCode k_seenCode 12 f_seenCode] U.heap ∧ va_K (dC, dI) cls_all [(k_seenName, .long), (k_seenCode, .int)] U)) (vp_Si (fun r : Int32 => (r = if p1 = 72 then 0 else if fd (fun j => decide (f_seenName j = p1)) n = -1 then -1 else f_seenCode (fd (fun j => decide (f_seenName j = p1)) n).toNatClampNeg))) 0 0 (fun _ => False) := by
  refine Met.ofW (cc := b_Model_findRegion) (maxL := 4) (ret := (some .int)) (by decide) rfl ?_
  intro p e s m args below meth c s₁ B hml hv
  obtain ⟨rfl, hP, hK⟩ := hv
  have hx := B.exec
  have hb := B.bytes
  have hr := B.returns
  have hT : ∀ w ∈ lw_good, w.before _ s = true := fun w h => atoms_spec (ws := w_Model_findRegion) B.pre w (List.mem_cons_of_mem _ h)
  have hown : s.vm.findClass R_Model = some m.cls := findClass_of_methodNamed B.named
  have hlocks := B.notSynchronized
  have hl := lv_entry ([.ref h_this, .long p1]) (n := 4) (Nat.le_of_ble_eq_true rfl)
  rw [lg_entry_eq]
  generalize (lg_sl ([.ref h_this, .long p1]) ++ List.replicate (4 - (lg_sl ([.ref h_this, .long p1])).length) Slot.unset).toArray = ls at hl ⊢
  have hl : lv_has ls 4 [(0, .ref h_this), (1, .long p1)] := hl
  refine lv_lload_n hx hb d_Model_findRegion_0 rfl (lv_at hl 1 rfl) ?_
  refine lv_ldc2 hx hb hown (hT _ k_Model_566) d_Model_findRegion_1 ?_
  refine W.lcmp hx hb d_Model_findRegion_4 ?_
  refine lv_if_ne (tgt := 10) hx hb d_Model_findRegion_5 (by decide) (fun c1 => ?_) (fun c1 => ?_)
  · refine lv_aload_n hx hb d_Model_findRegion_10 rfl (lv_at hl 0 rfl) ?_
    refine va_get (D := (dC, dI)) (ci := 12) (v := .int (nI n)) (C := R_Model) (T := F_Model) (N := 153) hx hb hT i_Model hown hK hP 0 rfl rfl 71 (by decide) (hT _ fl_Model_568) (fun _ h9 => h9) g_this_seenRegions d_Model_findRegion_11 ?_
    refine lv_iconst (v := 1) hx hb d_Model_findRegion_14 (by decide) ?_
    refine lv_isub hx hb d_Model_findRegion_15 ?_
    refine lv_topi (fun x2 e2 => ?_)
    refine lv_istore_n (lv' := [(3, .int x2), (0, .ref h_this), (1, .long p1)]) hx hb d_Model_findRegion_16 rfl hl (by decide) rfl (fun ls hl => ?_)
    have loop : ∀ (nn : Nat) (k : Nat) (v : Int32), v + 1 = nI k → k ≤ n → fd (fun j => decide (f_seenName j = p1)) n = fd (fun j => decide (f_seenName j = p1)) k → k < nn → ∀ (ls : Array Slot), lv_has ls 4 [(3, .int v), (0, .ref h_this), (1, .long p1)] → W p l e (headSpec w_Model_findRegion ({ frames := 0, cells := 0, slots := 0, locals := 0 } : Room)).room s m ([.ref h_this, .long p1] : List Value).toArray below meth c s.heap [] 0 0 (MQ below (vp_Si (fun r : Int32 => (r = if p1 = 72 then 0 else if fd (fun j => decide (f_seenName j = p1)) n = -1 then -1 else f_seenCode (fd (fun j => decide (f_seenName j = p1)) n).toNatClampNeg))) ([.ref h_this, .long p1] : List Value).toArray s 0 0 (fun _ => False)) (F0 m 17 ls []) := by
      clear hl
      intro nn
      induction nn with
      | zero => intro k v hv hk he hn ls hl; exfalso; omega
      | succ nn ih =>
        intro k v hv hk he hn ls hl
        refine lv_iload_n hx hb d_Model_findRegion_17 rfl (lv_at hl 0 rfl) ?_
        refine lv_if_lt (tgt := 45) hx hb d_Model_findRegion_18 (by decide) (fun c3 => ?_) (fun c3 => ?_)
        · refine lv_iconst (v := (-1)) hx hb d_Model_findRegion_45 (by decide) ?_
          refine W.iret (v := (-1)) hx hb hr (fun t ht hW => ⟨(-1), rfl, ?_, ht⟩) (fun q h => by cases h) d_Model_findRegion_46
          rw [if_neg (fun q => c1 ((lg_cmp_eq _ _).mpr q)), he, (dn hv (by omega)).1 c3]; rfl
        · obtain ⟨j, rfl, rfl⟩ := (dn hv (by omega)).2 c3
          have hl : lv_has ls 4 [(3, .int (nI (j))), (0, .ref h_this), (1, .long p1)] := hl
          refine lv_aload_n hx hb d_Model_findRegion_21 rfl (lv_at hl 1 rfl) ?_
          refine va_get (D := (dC, dI)) (ci := 12) (v := .ref h_seenName) (C := R_Model) (T := F_Model) (N := 153) hx hb hT i_Model hown hK hP 0 rfl rfl 72 (by decide) (hT _ fl_Model_171) (fun _ h9 => h9) g_this_seenName d_Model_findRegion_22 ?_
          refine lv_iload_n hx hb d_Model_findRegion_25 rfl (lv_at hl 0 rfl) ?_
          refine va_lald hx hb hK hP 1 0 rfl rfl (vp_in_nI (by omega) (by decide)) d_Model_findRegion_26 ?_
          refine lv_topl (fun x4 e4 => ?_)
          obtain rfl : x4 = f_seenName (j) := e4.trans (congrArg f_seenName (nI_clamp (by omega)))
          refine lv_lload_n hx hb d_Model_findRegion_27 rfl (lv_at hl 2 rfl) ?_
          refine W.lcmp hx hb d_Model_findRegion_28 ?_
          refine lv_if_ne (tgt := 39) hx hb d_Model_findRegion_29 (by decide) (fun c5 => ?_) (fun c5 => ?_)
          · obtain ⟨x6, e6⟩ : ∃ y : Int32, y = (nI (j)) + (-1) := ⟨_, rfl⟩
            refine lv_iinc (v := x6) (lv' := [(3, .int x6), (0, .ref h_this), (1, .long p1)]) hx hb d_Model_findRegion_39 hl (k := 0) rfl (by rw [e6]; rfl) (by decide) rfl (fun ls hl => ?_)
            refine lv_goto (tgt := 17) hx hb d_Model_findRegion_42 (by decide) ?_
            exact ih j x6 (by rw [e6, Int32.add_assoc, show ((-1 : Int32) + 1) = 0 by decide, Int32.add_zero]) (by omega) (he.trans (if_neg (fun q => c5 ((lg_cmp_eq _ _).mpr (of_decide_eq_true q))))) (by omega) ls (lv_sub hl [0, 1, 2] rfl)
          · refine lv_aload_n hx hb d_Model_findRegion_32 rfl (lv_at hl 1 rfl) ?_
            refine va_get (D := (dC, dI)) (ci := 12) (v := .ref h_seenCode) (C := R_Model) (T := F_Model) (N := 153) hx hb hT i_Model hown hK hP 0 rfl rfl 73 (by decide) (hT _ fl_Model_174) (fun _ h9 => h9) g_this_seenCode d_Model_findRegion_33 ?_
            refine lv_iload_n hx hb d_Model_findRegion_36 rfl (lv_at hl 0 rfl) ?_
            refine va_iald hx hb hK hP 2 1 rfl rfl (vp_in_nI (by omega) (by decide)) d_Model_findRegion_37 ?_
            refine lv_topi (fun x7 e7 => ?_)
            obtain rfl : x7 = f_seenCode (j) := e7.trans (congrArg f_seenCode (nI_clamp (by omega)))
            refine W.iret (v := (f_seenCode (j))) hx hb hr (fun t ht hW => ⟨(f_seenCode (j)), rfl, ?_, ht⟩) (fun q h => by cases h) d_Model_findRegion_38
            rw [if_neg (fun q => c1 ((lg_cmp_eq _ _).mpr q)), he, show fd (fun j => decide (f_seenName j = p1)) (j + 1) = nI j from if_pos (decide_eq_true ((lg_cmp_eq _ _).mp c5)), if_neg (nI_m1 (by omega)), nI_clamp (by omega)]
    exact loop (n + 1) n _ (by rw [e2]; exact Int32.sub_add_cancel _ _) (Nat.le_refl n) rfl (by omega) ls (lv_sub hl [0, 1, 2] rfl)
  · refine lv_iconst (v := 0) hx hb d_Model_findRegion_8 (by decide) ?_
    refine W.iret (v := 0) hx hb hr (fun t ht hW => ⟨0, rfl, ?_, ht⟩) (fun q h => by cases h) d_Model_findRegion_9
    exact (if_pos ((lg_cmp_eq _ _).mp c1)).symm
