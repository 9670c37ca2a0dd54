abbrev b_Source_packed : ByteArray := prog_10_method_2_code
abbrev y_Source_packed : MethodName := ⟨R_Source, "packed", "([CII)J"⟩
theorem co_Source_packed : Cond.code y_Source_packed b_Source_packed 6 (some .long) ∈ lw_good := lg_in (tin_1 _ (List.mem_of_getElem? (i := 191) rfl)) rfl
abbrev w_Source_packed : List Cond := Cond.code y_Source_packed b_Source_packed 6 (some .long) :: lw_good
theorem st_Source_packed : Cond.static y_Source_packed ∈ lw_good := lg_right (i := 190) (by decide +kernel) rfl
theorem d_Source_packed_0 : decode b_Source_packed 0 = .ok (.lconst 0, 1) := by decide +kernel
theorem d_Source_packed_1 : decode b_Source_packed 1 = .ok (.lstore_n 3, 1) := by decide +kernel
theorem d_Source_packed_2 : decode b_Source_packed 2 = .ok (.iload_n 1, 1) := by decide +kernel
theorem d_Source_packed_3 : decode b_Source_packed 3 = .ok (.istore 5, 2) := by decide +kernel
theorem d_Source_packed_5 : decode b_Source_packed 5 = .ok (.iload 5, 2) := by decide +kernel
theorem d_Source_packed_7 : decode b_Source_packed 7 = .ok (.iload_n 2, 1) := by decide +kernel
theorem d_Source_packed_8 : decode b_Source_packed 8 = .ok (.if_icmp .ge 27, 3) := by decide +kernel
theorem d_Source_packed_11 : decode b_Source_packed 11 = .ok (.iload 5, 2) := by decide +kernel
theorem d_Source_packed_13 : decode b_Source_packed 13 = .ok (.aload_n 0, 1) := by decide +kernel
theorem d_Source_packed_14 : decode b_Source_packed 14 = .ok (.arraylength, 1) := by decide +kernel
theorem d_Source_packed_15 : decode b_Source_packed 15 = .ok (.if_icmp .ge 20, 3) := by decide +kernel
theorem d_Source_packed_18 : decode b_Source_packed 18 = .ok (.lload_n 3, 1) := by decide +kernel
theorem d_Source_packed_19 : decode b_Source_packed 19 = .ok (.bipush 8, 2) := by decide +kernel
theorem d_Source_packed_21 : decode b_Source_packed 21 = .ok (.lshl, 1) := by decide +kernel
theorem d_Source_packed_22 : decode b_Source_packed 22 = .ok (.aload_n 0, 1) := by decide +kernel
theorem d_Source_packed_23 : decode b_Source_packed 23 = .ok (.iload 5, 2) := by decide +kernel
theorem d_Source_packed_25 : decode b_Source_packed 25 = .ok (.caload, 1) := by decide +kernel
theorem d_Source_packed_26 : decode b_Source_packed 26 = .ok (.i2l, 1) := by decide +kernel
theorem d_Source_packed_27 : decode b_Source_packed 27 = .ok (.lor, 1) := by decide +kernel
theorem d_Source_packed_28 : decode b_Source_packed 28 = .ok (.lstore_n 3, 1) := by decide +kernel
theorem d_Source_packed_29 : decode b_Source_packed 29 = .ok (.iinc 5 1, 3) := by decide +kernel
theorem d_Source_packed_32 : decode b_Source_packed 32 = .ok (.goto (-27), 3) := by decide +kernel
theorem d_Source_packed_35 : decode b_Source_packed 35 = .ok (.lload_n 3, 1) := by decide +kernel
theorem d_Source_packed_36 : decode b_Source_packed 36 = .ok (.lreturn, 1) := by decide +kernel
set_option maxHeartbeats 1000000 in
set_option maxRecDepth 100000 in
theorem c_Source_packed (l : Launch) (dC : Nat → ClassId) (dI : Nat → Nat → Nat)  (h_a1 : Nat) (k_a1 : ClassId) (f_a1 : Nat → Int32) (L : Nat) (a : Nat) (b : Nat) (hL : L < 2 ^ 31) (hab : a ≤ b) (hbL : b ≤ L) : Met l y_Source_packed w_Source_packed ({ frames := 0, cells := 0, slots := 0, locals := 0 } : Room) (va_Pc [.ref h_a1, .int (nI a), .int (nI b)] (fun U => va_P (dC, dI) cls_all [ic h_a1 k_a1 L f_a1] U.heap ∧ va_K (dC, dI) cls_all [(k_a1, .char)] U)) (vp_Sl (fun r : Int64 => (r = pkd f_a1 a (b - a)))) 0 0 (fun _ => False) := by
  refine Met.ofW (cc := b_Source_packed) (maxL := 6) (ret := (some .long)) (by decide) rfl ?_
  intro p e s m args below meth c s₁ B hml hv
  obtain ⟨rfl, hP, hK⟩ := hv
  have hx := B.exec
  have hb := B.bytes
  have hr := B.returns
  have hT : ∀ w ∈ lw_good, w.before _ s = true := fun w h => atoms_spec (ws := w_Source_packed) B.pre w (List.mem_cons_of_mem _ h)
  have hown : s.vm.findClass R_Source = some m.cls := findClass_of_methodNamed B.named
  have hlocks := B.notSynchronized
  have hl := lv_entry ([.ref h_a1, .int (nI a), .int (nI b)]) (n := 6) (Nat.le_of_ble_eq_true rfl)
  rw [lg_entry_eq]
  generalize (lg_sl ([.ref h_a1, .int (nI a), .int (nI b)]) ++ List.replicate (6 - (lg_sl ([.ref h_a1, .int (nI a), .int (nI b)])).length) Slot.unset).toArray = ls at hl ⊢
  have hl : lv_has ls 6 [(0, .ref h_a1), (1, .int (nI a)), (2, .int (nI b))] := hl
  refine lv_lconst (v := 0) hx hb d_Source_packed_0 (by decide) ?_
  refine lv_lstore_n (lv' := [(3, .long 0), (0, .ref h_a1), (1, .int (nI a)), (2, .int (nI b))]) hx hb d_Source_packed_1 rfl hl (by decide) rfl (fun ls hl => ?_)
  refine lv_iload_n hx hb d_Source_packed_2 rfl (lv_at hl 2 rfl) ?_
  refine lv_istore (lv' := [(5, .int (nI a)), (3, .long 0), (0, .ref h_a1), (1, .int (nI a)), (2, .int (nI b))]) hx hb d_Source_packed_3 hl (by decide) rfl (fun ls hl => ?_)
  have loop : ∀ (nn : Nat) (k : Nat), a + k ≤ b → b - (a + k) < nn → ∀ (ls : Array Slot), lv_has ls 6 [(5, .int (nI (a + k))), (3, .long (pkd f_a1 a k)), (0, .ref h_a1), (1, .int (nI a)), (2, .int (nI b))] → W p l e (headSpec w_Source_packed ({ frames := 0, cells := 0, slots := 0, locals := 0 } : Room)).room s m ([.ref h_a1, .int (nI a), .int (nI b)] : List Value).toArray below meth c s.heap [] 0 0 (MQ below (vp_Sl (fun r : Int64 => (r = pkd f_a1 a (b - a)))) ([.ref h_a1, .int (nI a), .int (nI b)] : List Value).toArray s 0 0 (fun _ => False)) (F0 m 5 ls []) := by
    clear hl
    intro nn
    induction nn with
    | zero => intro k hk hn ls hl; exfalso; omega
    | succ nn ih =>
      intro k hk hn ls hl
      refine lv_iload hx hb d_Source_packed_5 (lv_at hl 0 rfl) ?_
      refine lv_iload_n hx hb d_Source_packed_7 rfl (lv_at hl 4 rfl) ?_
      refine lv_icmp_ge (tgt := 35) hx hb d_Source_packed_8 (by decide) (fun c1 => ?_) (fun c1 => ?_)
      · have b1 : (b) ≤ ((a + k)) := (ni_le (by omega) (by omega)).1 c1
        refine lv_lload_n hx hb d_Source_packed_35 rfl (lv_at hl 1 rfl) ?_
        refine W.lret (v := (pkd f_a1 a k)) hx hb hr (fun t ht hW => ⟨(pkd f_a1 a k), rfl, ?_, ht⟩) (fun q h => by cases h) d_Source_packed_36
        subst_vars; exact congrArg _ (by omega)
      · have b1 : ((a + k)) < (b) := (ni_le (by omega) (by omega)).2 c1
        refine lv_iload hx hb d_Source_packed_11 (lv_at hl 0 rfl) ?_
        refine lv_aload_n hx hb d_Source_packed_13 rfl (lv_at hl 2 rfl) ?_
        refine va_alen (v := (nI L)) hx hb hK hP 0 0 rfl rfl rfl d_Source_packed_14 ?_
        refine lv_icmp_ge (tgt := 35) hx hb d_Source_packed_15 (by decide) (fun c2 => ?_) (fun c2 => ?_)
        · have b2 : (L) ≤ ((a + k)) := (ni_le (by omega) (by omega)).1 c2
          refine lv_lload_n hx hb d_Source_packed_35 rfl (lv_at hl 1 rfl) ?_
          refine W.lret (v := (pkd f_a1 a k)) hx hb hr (fun t ht hW => ⟨(pkd f_a1 a k), rfl, ?_, ht⟩) (fun q h => by cases h) d_Source_packed_36
          subst_vars; exact congrArg _ (by omega)
        · have b2 : ((a + k)) < (L) := (ni_le (by omega) (by omega)).2 c2
          refine lv_lload_n hx hb d_Source_packed_18 rfl (lv_at hl 1 rfl) ?_
          refine lv_bipush (v := 8) hx hb d_Source_packed_19 (by decide) ?_
          obtain ⟨x3, e3⟩ : ∃ z : Int64, (pkd f_a1 a k) <<< ((8 : Int32).toInt64 &&& 63) = z := ⟨_, rfl⟩
          refine lv_lshl (v := x3) hx hb d_Source_packed_21 e3 ?_
          refine lv_aload_n hx hb d_Source_packed_22 rfl (lv_at hl 2 rfl) ?_
          refine lv_iload hx hb d_Source_packed_23 (lv_at hl 0 rfl) ?_
          refine va_cald hx hb hK hP 0 0 rfl rfl (vp_in_nI (by omega) hL) d_Source_packed_25 ?_
          refine lv_topi (fun x4 e4 => ?_)
          obtain ⟨x5, e5⟩ : ∃ z : Int64, (x4 : Int32).toInt64 = z := ⟨_, rfl⟩
          refine lv_i2l (v := x5) hx hb d_Source_packed_26 e5 ?_
          refine lv_lor hx hb d_Source_packed_27 ?_
          refine lv_topl (fun x6 e6 => ?_)
          refine lv_lstore_n (lv' := [(3, .long x6), (5, .int (nI (a + k))), (0, .ref h_a1), (1, .int (nI a)), (2, .int (nI b))]) hx hb d_Source_packed_28 rfl hl (by decide) rfl (fun ls hl => ?_)
          obtain rfl : x6 = pkd f_a1 a (k + 1) := by rw [e6, ← e3, ← e5, e4, nI_clamp (by omega)]; rfl
          refine lv_iinc (v := (nI (a + k + 1))) (lv' := [(5, .int (nI (a + k + 1))), (3, .long (pkd f_a1 a (k + 1))), (0, .ref h_a1), (1, .int (nI a)), (2, .int (nI b))]) hx hb d_Source_packed_29 hl (k := 1) rfl (nI_add (a + k) 1) (by decide) rfl (fun ls hl => ?_)
          refine lv_goto (tgt := 5) hx hb d_Source_packed_32 (by decide) ?_
          exact ih (k + 1) (by omega) (by omega) ls (lv_sub hl [0, 1, 2, 3, 4] rfl)
  exact loop (b - a + 1) 0 (by omega) (by omega) ls (lv_sub hl [0, 1, 2, 3, 4] rfl)
