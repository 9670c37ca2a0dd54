section GV
variable {p : Program} {l : Launch} {e : Env} {R : Room} {s : State} {m : MethodId} {args : Array Value} {below : List Frame} {meth : Method} {c : Code} {H : Heap} {locs : List Loc} {cells slots : Nat} {Q : State → Prop}
variable {cc : ByteArray} {pc : Nat} {ls : Array Slot} {rest st0 : List Value} {dC : Nat → ClassId} {dI : Nat → Nat → Nat} {A : Nat → Prop} {ad ea ev : Nat → Nat} {km : Nat → ClassId} {T T' : gSt} {H0 : Heap}
theorem wr_Memory_48 (hx : p.tables.exec = Jvm.exec) (hb : c.code = cc) (hT : ∀ w ∈ lw_good, w.before args s = true) (hown : s.vm.findClass R_Memory = some m.cls) (hK : va_K (dC, dI) cls_all (gT LH km) s) (hP : va_P (dC, dI) cls_all (gW LH ad km T) H) (hD : va_D A (gW LH ad km T)) (hS : va_S A H0 H locs) {v : Int32} (hdg : decode cc pc = .ok (.putfield 48, 3)) (kk : ∀ (T1 : gSt), T1 = sI T 117 0 v → ∀ (H1 : Heap) (locs1 : List Loc), va_P (dC, dI) cls_all (gW LH ad km T1) H1 → va_D A (gW LH ad km T1) → va_S A H0 H1 locs1 → W p l e R s m args below meth c H1 locs1 cells slots Q (F0 m (pc + 3) ls rest)) : W p l e R s m args below meth c H locs cells slots Q (F0 m pc ls (.int v :: .ref (ad 11) :: rest)) := gw_puti okH hx hb hT i_Memory t_Memory t_Memory_ok n_Memory hown hK hP hD hS 11 3 117 (Nat.le_of_ble_eq_true rfl) rfl rfl (Nat.le_of_ble_eq_true rfl) rfl rfl (hT _ fl_Memory_48) (fun _ h9 => h9) rfl (ty := .int) (by decide +kernel) rfl rfl hdg kk
theorem wr_Memory_52 (hx : p.tables.exec = Jvm.exec) (hb : c.code = cc) (hT : ∀ w ∈ lw_good, w.before args s = true) (hown : s.vm.findClass R_Memory = some m.cls) (hK : va_K (dC, dI) cls_all (gT LH km) s) (hP : va_P (dC, dI) cls_all (gW LH ad km T) H) (hD : va_D A (gW LH ad km T)) (hS : va_S A H0 H locs) {v : Int32} (hdg : decode cc pc = .ok (.putfield 52, 3)) (kk : ∀ (T1 : gSt), T1 = sI T 118 0 v → ∀ (H1 : Heap) (locs1 : List Loc), va_P (dC, dI) cls_all (gW LH ad km T1) H1 → va_D A (gW LH ad km T1) → va_S A H0 H1 locs1 → W p l e R s m args below meth c H1 locs1 cells slots Q (F0 m (pc + 3) ls rest)) : W p l e R s m args below meth c H locs cells slots Q (F0 m pc ls (.int v :: .ref (ad 11) :: rest)) := gw_puti okH hx hb hT i_Memory t_Memory t_Memory_ok n_Memory hown hK hP hD hS 11 4 118 (Nat.le_of_ble_eq_true rfl) rfl rfl (Nat.le_of_ble_eq_true rfl) rfl rfl (hT _ fl_Memory_52) (fun _ h9 => h9) rfl (ty := .int) (by decide +kernel) rfl rfl hdg kk
end GV
def mt_House_addFour (l : Launch) (dC : Nat → ClassId) (dI : Nat → Nat → Nat) (ea ev ad : Nat → Nat) (km : Nat → ClassId) (F : gF) (d : Nat) : Prop := ∀ (T : gSt) (p1 : Int32) (r : Int32) (rl : Int64) (T' : gSt), F 1 T [p1] [] = some (r, rl, T') → GMv l dC dI LH ad km ea ev y_House_addFour w_House_addFour (rmD d) [.ref (ad 0), .int p1] T T'
theorem pd_House_addFour : (y_House_addFour).cls = R_House ∧ (y_House_addFour).cls ≠ "java/lang/invoke/MethodHandle" ∧ (y_House_addFour).cls ≠ "java/lang/invoke/VarHandle" ∧ (parseMethodDescriptor (y_House_addFour).desc).map (fun d => d.parameters.length) = some 1 := by decide +kernel
def mt_House_feed (l : Launch) (dC : Nat → ClassId) (dI : Nat → Nat → Nat) (ea ev ad : Nat → Nat) (km : Nat → ClassId) (F : gF) (d : Nat) : Prop := ∀ (T : gSt) (p1 : Int32) (p2 : Int32) (p3 : Int32) (p4 : Int32) (p5 : Int32) (r : Int32) (rl : Int64) (T' : gSt), F 0 T [p1, p2, p3, p4, p5] [] = some (r, rl, T') → GMi l dC dI LH ad km ea ev y_House_feed w_House_feed (rmD d) [.ref (ad 0), .int p1, .int p2, .int p3, .int p4, .int p5] T r T'
theorem pd_House_feed : (y_House_feed).cls = R_House ∧ (y_House_feed).cls ≠ "java/lang/invoke/MethodHandle" ∧ (y_House_feed).cls ≠ "java/lang/invoke/VarHandle" ∧ (parseMethodDescriptor (y_House_feed).desc).map (fun d => d.parameters.length) = some 5 := by decide +kernel
set_option maxHeartbeats 4000000 in
set_option maxRecDepth 100000 in
theorem sp_House_feed (l : Launch) (dC : Nat → ClassId) (dI : Nat → Nat → Nat) (ea ev ad : Nat → Nat) (km : Nat → ClassId) (F : gF) (nf d : Nat) (h_House_addFour : mt_House_addFour l dC dI ea ev ad km F d) (T0 : gSt) (p1 : Int32) (p2 : Int32) (p3 : Int32) (p4 : Int32) (p5 : Int32) (r0 : Int32) (rl0 : Int64) (T9 : gSt) (hR : rb_House_feed F nf T0 p1 p2 p3 p4 p5 = some (r0, rl0, T9)) : GMi l dC dI LH ad km ea ev y_House_feed w_House_feed (rmD (d + 1)) [.ref (ad 0), .int p1, .int p2, .int p3, .int p4, .int p5] T0 r0 T9 := by
  intro sz
  refine Met.ofW (cc := b_House_feed) (maxL := 6) (ret := (some .int)) (by decide) rfl ?_
  intro p e s m args below meth c s₁ B hml hv
  obtain ⟨rfl, hsz, hP, hK, hD0, hnw, henv⟩ := hv
  have hx := B.exec
  have hb := B.bytes
  have hr := B.returns
  have hT : ∀ w ∈ lw_good, w.before _ s = true := fun w h => atoms_spec (ws := w_House_feed) B.pre w (List.mem_cons_of_mem _ h)
  have hown : s.vm.findClass R_House = some m.cls := findClass_of_methodNamed B.named
  subst hsz
  have hD := hD0.self (sz := s.heap.size)
  clear hD0
  generalize hAe : va_A (gW LH ad km T0) s.heap.size = A at hD henv ⊢
  have hA : ∀ q : Nat, s.heap.size ≤ q → A q := fun q h => by rw [← hAe]; exact Or.inr h
  have hS : va_S A s.heap s.heap [] := va_S.rf
  have hl := lv_entry ([.ref (ad 0), .int p1, .int p2, .int p3, .int p4, .int p5]) (n := 6) (Nat.le_of_ble_eq_true rfl)
  rw [lg_entry_eq]
  generalize (lg_sl ([.ref (ad 0), .int p1, .int p2, .int p3, .int p4, .int p5]) ++ List.replicate (6 - (lg_sl ([.ref (ad 0), .int p1, .int p2, .int p3, .int p4, .int p5])).length) Slot.unset).toArray = ls at hl ⊢
  have hl : lv_has ls 6 [(0, .ref (ad 0)), (1, .int p1), (2, .int p2), (3, .int p3), (4, .int p4), (5, .int p5)] := hl
  unfold rb_House_feed at hR
  refine lv_aload_n hx hb d_House_feed_0 rfl (lv_at hl 0 rfl) ?_
  refine rd_House_83 hx hb hT hown hK hP d_House_feed_1 ?_
  refine lv_bipush (v := 20) hx hb d_House_feed_4 (by decide) ?_
  refine lv_iadd hx hb d_House_feed_6 ?_
  refine lv_sipush (v := 4000) hx hb d_House_feed_7 (by decide) ?_
  refine lv_icmp_le (tgt := 15) hx hb d_House_feed_10 (by decide) (fun c1 => ?_) (fun c1 => ?_)
  · replace hR := if_p c1 hR
    refine lv_aload_n hx hb d_House_feed_15 rfl (lv_at hl 0 rfl) ?_
    refine lv_iload_n hx hb d_House_feed_16 rfl (lv_at hl 1 rfl) ?_
    replace hR := bi_e hR
    obtain ⟨r2, l2, T2, hc2, hR⟩ := hR
    refine gcV_v (rest := []) ⟨hx, hb, hml, hown, hT⟩ (h_House_addFour _ _ _ _ _ hc2) (cwV 1 hT (gV ml_House_87 im_House_addFour se_House_addFour ini_House co_House_addFour) rfl rfl rfl pd_House_addFour ⟨rm_hi, rm_lo (Nat.le_of_ble_eq_true rfl)⟩) hK hP hD hS hA hnw henv (Nat.le_of_ble_eq_true rfl) rfl rfl hl.1 rfl (Nat.le_of_ble_eq_true rfl) d_House_feed_17 ⟨Nat.le_refl _, Nat.le_refl _⟩ (fun H locs hP hD hS => ?_)
    clear hc2
    refine lv_aload_n hx hb d_House_feed_20 rfl (lv_at hl 0 rfl) ?_
    refine lv_iload_n hx hb d_House_feed_21 rfl (lv_at hl 2 rfl) ?_
    replace hR := bi_e hR
    obtain ⟨r3, l3, T3, hc3, hR⟩ := hR
    refine gcV_v (rest := []) ⟨hx, hb, hml, hown, hT⟩ (h_House_addFour _ _ _ _ _ hc3) (cwV 1 hT (gV ml_House_87 im_House_addFour se_House_addFour ini_House co_House_addFour) rfl rfl rfl pd_House_addFour ⟨rm_hi, rm_lo (Nat.le_of_ble_eq_true rfl)⟩) hK hP hD hS hA hnw henv (Nat.le_of_ble_eq_true rfl) rfl rfl hl.1 rfl (Nat.le_of_ble_eq_true rfl) d_House_feed_22 ⟨Nat.le_refl _, Nat.le_refl _⟩ (fun H locs hP hD hS => ?_)
    clear hc3
    refine lv_aload_n hx hb d_House_feed_25 rfl (lv_at hl 0 rfl) ?_
    refine lv_iload_n hx hb d_House_feed_26 rfl (lv_at hl 3 rfl) ?_
    replace hR := bi_e hR
    obtain ⟨r4, l4, T4, hc4, hR⟩ := hR
    refine gcV_v (rest := []) ⟨hx, hb, hml, hown, hT⟩ (h_House_addFour _ _ _ _ _ hc4) (cwV 1 hT (gV ml_House_87 im_House_addFour se_House_addFour ini_House co_House_addFour) rfl rfl rfl pd_House_addFour ⟨rm_hi, rm_lo (Nat.le_of_ble_eq_true rfl)⟩) hK hP hD hS hA hnw henv (Nat.le_of_ble_eq_true rfl) rfl rfl hl.1 rfl (Nat.le_of_ble_eq_true rfl) d_House_feed_27 ⟨Nat.le_refl _, Nat.le_refl _⟩ (fun H locs hP hD hS => ?_)
    clear hc4
    refine lv_aload_n hx hb d_House_feed_30 rfl (lv_at hl 0 rfl) ?_
    refine lv_iload hx hb d_House_feed_31 (lv_at hl 4 rfl) ?_
    replace hR := bi_e hR
    obtain ⟨r5, l5, T5, hc5, hR⟩ := hR
    refine gcV_v (rest := []) ⟨hx, hb, hml, hown, hT⟩ (h_House_addFour _ _ _ _ _ hc5) (cwV 1 hT (gV ml_House_87 im_House_addFour se_House_addFour ini_House co_House_addFour) rfl rfl rfl pd_House_addFour ⟨rm_hi, rm_lo (Nat.le_of_ble_eq_true rfl)⟩) hK hP hD hS hA hnw henv (Nat.le_of_ble_eq_true rfl) rfl rfl hl.1 rfl (Nat.le_of_ble_eq_true rfl) d_House_feed_33 ⟨Nat.le_refl _, Nat.le_refl _⟩ (fun H locs hP hD hS => ?_)
    clear hc5
    refine lv_aload_n hx hb d_House_feed_36 rfl (lv_at hl 0 rfl) ?_
    refine lv_iload hx hb d_House_feed_37 (lv_at hl 5 rfl) ?_
    replace hR := bi_e hR
    obtain ⟨r6, l6, T6, hc6, hR⟩ := hR
    refine gcV_v (rest := []) ⟨hx, hb, hml, hown, hT⟩ (h_House_addFour _ _ _ _ _ hc6) (cwV 1 hT (gV ml_House_87 im_House_addFour se_House_addFour ini_House co_House_addFour) rfl rfl rfl pd_House_addFour ⟨rm_hi, rm_lo (Nat.le_of_ble_eq_true rfl)⟩) hK hP hD hS hA hnw henv (Nat.le_of_ble_eq_true rfl) rfl rfl hl.1 rfl (Nat.le_of_ble_eq_true rfl) d_House_feed_39 ⟨Nat.le_refl _, Nat.le_refl _⟩ (fun H locs hP hD hS => ?_)
    clear hc6
    refine lv_aload_n hx hb d_House_feed_42 rfl (lv_at hl 0 rfl) ?_
    refine rd_House_83 hx hb hT hown hK hP d_House_feed_43 ?_
    obtain ⟨e1, -, e3⟩ := re_e hR
    subst e1; subst e3
    exact W.iret (v := T6.1 1 0) hx hb hr (fun t ht hW => ⟨⟨T6.1 1 0, (), rfl, rfl, by rw [ht]; exact hP, va_K.moved hW.alike hK, hD⟩, hS.F ht⟩) hS.2.2 d_House_feed_46
  · replace hR := if_n c1 hR
    refine lv_iconst (v := (-1)) hx hb d_House_feed_13 (by decide) ?_
    obtain ⟨e1, -, e3⟩ := re_e hR
    subst e1; subst e3
    exact W.iret (v := (-1 : Int32)) hx hb hr (fun t ht hW => ⟨⟨(-1 : Int32), (), rfl, rfl, by rw [ht]; exact hP, va_K.moved hW.alike hK, hD⟩, hS.F ht⟩) hS.2.2 d_House_feed_14
set_option maxHeartbeats 4000000 in
set_option maxRecDepth 100000 in
theorem sp_House_addFour (l : Launch) (dC : Nat → ClassId) (dI : Nat → Nat → Nat) (ea ev ad : Nat → Nat) (km : Nat → ClassId) (F : gF) (nf d : Nat) (T0 : gSt) (p1 : Int32) (r0 : Int32) (rl0 : Int64) (T9 : gSt) (hR : rb_House_addFour F nf T0 p1 = some (r0, rl0, T9)) : GMv l dC dI LH ad km ea ev y_House_addFour w_House_addFour (rmD (d + 1)) [.ref (ad 0), .int p1] T0 T9 := by
  intro sz
  refine Met.ofW (cc := b_House_addFour) (maxL := 3) (ret := none) (by decide) rfl ?_
  intro p e s m args below meth c s₁ B hml hv
  obtain ⟨rfl, hsz, hP, hK, hD0, hnw, henv⟩ := hv
  have hx := B.exec
  have hb := B.bytes
  have hr := B.returns
  have hT : ∀ w ∈ lw_good, w.before _ s = true := fun w h => atoms_spec (ws := w_House_addFour) B.pre w (List.mem_cons_of_mem _ h)
  have hown : s.vm.findClass R_House = some m.cls := findClass_of_methodNamed B.named
  subst hsz
  have hD := hD0.self (sz := s.heap.size)
  clear hD0
  generalize hAe : va_A (gW LH ad km T0) s.heap.size = A at hD henv ⊢
  have hA : ∀ q : Nat, s.heap.size ≤ q → A q := fun q h => by rw [← hAe]; exact Or.inr h
  have hS : va_S A s.heap s.heap [] := va_S.rf
  have hl := lv_entry ([.ref (ad 0), .int p1]) (n := 3) (Nat.le_of_ble_eq_true rfl)
  rw [lg_entry_eq]
  generalize (lg_sl ([.ref (ad 0), .int p1]) ++ List.replicate (3 - (lg_sl ([.ref (ad 0), .int p1])).length) Slot.unset).toArray = ls at hl ⊢
  have hl : lv_has ls 3 [(0, .ref (ad 0)), (1, .int p1)] := hl
  obtain ⟨G, hG⟩ : ∃ G : Nat → List (Nat × Value) → List Value → gSt → Prop, G = (fun pc lv stk T => ∀ (H : Heap) (locs : List Loc), va_P (dC, dI) cls_all (gW LH ad km T) H → va_D A (gW LH ad km T) → va_S A s.heap H locs → ∀ (ls : Array Slot), lv_has ls 3 lv → W p l e (headSpec w_House_addFour (rmD (d + 1))).room s m ([.ref (ad 0), .int p1] : List Value).toArray below meth c H locs 0 0 (MQ below (va_Qv (fun (_ : Unit) => True) (fun _ t => gPost dC dI LH ad km T9 A t) A) ([.ref (ad 0), .int p1] : List Value).toArray s 0 0 A) (F0 m pc ls stk)) := ⟨_, rfl⟩
  have lb_3 : ∀ (n : Nat) (T : gSt) (x1 : Int32) (x2 : Int32), rl_House_addFour_3 F nf n T x1 x2 = some (r0, rl0, T9) → G 3 [(0, .ref (ad 0)), (1, .int x1), (2, .int x2)] [] T := by
    intro n
    induction n with
    | zero => intro T x1 x2 hR; rw [rl_House_addFour_3] at hR; cases hR
    | succ n ih =>
      intro T x1 x2 hR; rw [rl_House_addFour_3] at hR; rw [hG]; intro H locs hP hD hS ls hl
      refine lv_iload_n hx hb d_House_addFour_3 rfl (lv_at hl 2 rfl) ?_
      refine lv_if_lt (tgt := 52) hx hb d_House_addFour_4 (by decide) (fun c1 => ?_) (fun c1 => ?_)
      · replace hR := if_p c1 hR
        obtain ⟨-, -, e3⟩ := re_e hR
        subst e3
        exact W.vret hx hb hr (fun t ht hW => ⟨⟨(), rfl, trivial, by rw [ht]; exact hP, va_K.moved hW.alike hK, hD⟩, hS.F ht⟩) hS.2.2 d_House_addFour_52
      · replace hR := if_n c1 hR
        refine lv_aload_n hx hb d_House_addFour_7 rfl (lv_at hl 0 rfl) ?_
        refine rd_House_83 hx hb hT hown hK hP d_House_addFour_8 ?_
        refine lv_aload_n hx hb d_House_addFour_11 rfl (lv_at hl 0 rfl) ?_
        refine rd_House_9 hx hb hT hown hK hP d_House_addFour_12 ?_
        refine gw_alen hx hb hK hP 0 4000 12 (Nat.le_of_ble_eq_true rfl) rfl rfl d_House_addFour_15 ?_
        refine W.eq (g2 := F0 m 16 ls [.int (4000 : Int32), .int (T.1 1 0)]) rfl ?_
        refine lv_icmp_ge (tgt := 52) hx hb d_House_addFour_16 (by decide) (fun c2 => ?_) (fun c2 => ?_)
        · replace hR := if_p c2 hR
          obtain ⟨-, -, e3⟩ := re_e hR
          subst e3
          exact W.vret hx hb hr (fun t ht hW => ⟨⟨(), rfl, trivial, by rw [ht]; exact hP, va_K.moved hW.alike hK, hD⟩, hS.F ht⟩) hS.2.2 d_House_addFour_52
        · replace hR := if_n c2 hR
          refine lv_aload_n hx hb d_House_addFour_19 rfl (lv_at hl 0 rfl) ?_
          refine rd_House_9 hx hb hT hown hK hP d_House_addFour_20 ?_
          refine lv_aload_n hx hb d_House_addFour_23 rfl (lv_at hl 0 rfl) ?_
          refine rd_House_83 hx hb hT hown hK hP d_House_addFour_24 ?_
          refine lv_iload_n hx hb d_House_addFour_27 rfl (lv_at hl 1 rfl) ?_
          refine lv_iload_n hx hb d_House_addFour_28 rfl (lv_at hl 2 rfl) ?_
          refine lv_iushr (v := (x1.toUInt32 >>> (Int32.toUInt32 x2 &&& Int32.toUInt32 31)).toInt32) hx hb d_House_addFour_29 rfl ?_
          refine lv_sipush (v := 255) hx hb d_House_addFour_30 (by decide) ?_
          refine lv_iand hx hb d_House_addFour_33 ?_
          refine lv_i2c (v := ((((x1.toUInt32 >>> (Int32.toUInt32 x2 &&& Int32.toUInt32 31)).toInt32) &&& (255 : Int32) : Int32).toUInt32 % 65536).toInt32) hx hb d_House_addFour_34 rfl ?_
          replace hR := gd_e hR
          obtain ⟨b3, hR⟩ := hR
          refine gw_cast okH hx hb hK hP hD hS 0 0 4000 12 (Nat.le_of_ble_eq_true rfl) rfl rfl rfl rfl rfl (by rw [sc_c2]; unfold vp_nar; rw [sc_nar]) b3 d_House_addFour_35 (fun T3 eT H locs hP hD hS => ?_)
          replace hR := stK_e eT hR
          clear eT
          refine lv_aload_n hx hb d_House_addFour_36 rfl (lv_at hl 0 rfl) ?_
          refine lv_dup hx hb d_House_addFour_37 rfl ?_
          refine rd_House_83 hx hb hT hown hK hP d_House_addFour_38 ?_
          refine lv_iconst (v := 1) hx hb d_House_addFour_41 (by decide) ?_
          refine lv_iadd hx hb d_House_addFour_42 ?_
          refine wr_House_83 hx hb hT hown hK hP hD hS d_House_addFour_43 (fun T4 eT H locs hP hD hS => ?_)
          replace hR := stK_e eT hR
          clear eT
          obtain ⟨z5, e5⟩ : ∃ y : Int32, y = x2 + (-8 : Int32) := ⟨_, rfl⟩
          replace hR := vK_e e5 hR
          refine lv_iinc (v := z5) (lv' := [(2, .int z5), (0, .ref (ad 0)), (1, .int x1)]) hx hb d_House_addFour_46 hl (k := 2) rfl (by rw [e5]; rfl) (by decide) rfl (fun ls hl => ?_)
          refine lv_goto (tgt := 3) hx hb d_House_addFour_49 (by decide) ?_
          have g := ih T4 x1 z5 hR
          rw [hG] at g
          exact g _ _ hP hD hS _ (lv_sub hl [1, 2, 0] rfl)
  unfold rb_House_addFour at hR
  refine lv_bipush (v := 24) hx hb d_House_addFour_0 (by decide) ?_
  refine lv_istore_n (lv' := [(2, .int (24 : Int32)), (0, .ref (ad 0)), (1, .int p1)]) hx hb d_House_addFour_2 rfl hl (by decide) rfl (fun ls hl => ?_)
  have g := lb_3 nf T0 p1 (24 : Int32) hR
  rw [hG] at g
  exact g _ _ hP hD hS _ (lv_sub hl [1, 2, 0] rfl)
set_option maxHeartbeats 4000000 in
set_option maxRecDepth 100000 in
theorem sp_Code_clear (l : Launch) (dC : Nat → ClassId) (dI : Nat → Nat → Nat) (ea ev ad : Nat → Nat) (km : Nat → ClassId) (F : gF) (nf d : Nat) (T0 : gSt) (r0 : Int32) (rl0 : Int64) (T9 : gSt) (hR : rb_Code_clear F nf T0 = some (r0, rl0, T9)) : GMv l dC dI LH ad km ea ev y_Code_clear w_Code_clear (rmD (d + 1)) [.ref (ad 3)] T0 T9 := by
  intro sz
  refine Met.ofW (cc := b_Code_clear) (maxL := 1) (ret := none) (by decide) rfl ?_
  intro p e s m args below meth c s₁ B hml hv
  obtain ⟨rfl, hsz, hP, hK, hD0, hnw, henv⟩ := hv
  have hx := B.exec
  have hb := B.bytes
  have hr := B.returns
  have hT : ∀ w ∈ lw_good, w.before _ s = true := fun w h => atoms_spec (ws := w_Code_clear) B.pre w (List.mem_cons_of_mem _ h)
  have hown : s.vm.findClass R_Code = some m.cls := findClass_of_methodNamed B.named
  subst hsz
  have hD := hD0.self (sz := s.heap.size)
  clear hD0
  generalize hAe : va_A (gW LH ad km T0) s.heap.size = A at hD henv ⊢
  have hA : ∀ q : Nat, s.heap.size ≤ q → A q := fun q h => by rw [← hAe]; exact Or.inr h
  have hS : va_S A s.heap s.heap [] := va_S.rf
  have hl := lv_entry ([.ref (ad 3)]) (n := 1) (Nat.le_of_ble_eq_true rfl)
  rw [lg_entry_eq]
  generalize (lg_sl ([.ref (ad 3)]) ++ List.replicate (1 - (lg_sl ([.ref (ad 3)])).length) Slot.unset).toArray = ls at hl ⊢
  have hl : lv_has ls 1 [(0, .ref (ad 3))] := hl
  unfold rb_Code_clear at hR
  refine lv_aload_n hx hb d_Code_clear_0 rfl (lv_at hl 0 rfl) ?_
  refine lv_iconst (v := 0) hx hb d_Code_clear_1 (by decide) ?_
  refine wr_Code_28 hx hb hT hown hK hP hD hS d_Code_clear_2 (fun T1 eT H locs hP hD hS => ?_)
  replace hR := stK_e eT hR
  clear eT
  refine lv_aload_n hx hb d_Code_clear_5 rfl (lv_at hl 0 rfl) ?_
  refine rd_Code_21 hx hb hT hown hK hP d_Code_clear_6 ?_
  refine lv_iconst (v := 0) hx hb d_Code_clear_9 (by decide) ?_
  refine gcS_v (rest := []) ⟨hx, hb, hml, hown, hT⟩ (lift_fill okH l dC dI ea ev ad km d T1 36 52 7 48 (Nat.le_of_ble_eq_true rfl) rfl rfl rfl rfl rfl (by decide) (0 : Int32)) (va_cwS 2 hT (gS ml_Code_31 st_Arr_fill ini_Arr co_Arr_fill) rfl rfl rfl (by decide +kernel) ⟨rm_hi, rm_lo (Nat.le_of_ble_eq_true rfl)⟩) hK hP hD hS hA hnw henv rfl hl.1 rfl (Nat.le_of_ble_eq_true rfl) d_Code_clear_10 ⟨Nat.le_refl _, Nat.le_refl _⟩ (fun T2 eT H locs hP hD hS => ?_)
  replace hR := stK_e eT hR
  clear eT
  refine lv_aload_n hx hb d_Code_clear_13 rfl (lv_at hl 0 rfl) ?_
  refine lv_iconst (v := 0) hx hb d_Code_clear_14 (by decide) ?_
  refine wr_Code_37 hx hb hT hown hK hP hD hS d_Code_clear_15 (fun T3 eT H locs hP hD hS => ?_)
  replace hR := stK_e eT hR
  clear eT
  refine lv_aload_n hx hb d_Code_clear_18 rfl (lv_at hl 0 rfl) ?_
  refine lv_iconst (v := (-1)) hx hb d_Code_clear_19 (by decide) ?_
  refine wr_Code_24 hx hb hT hown hK hP hD hS d_Code_clear_20 (fun T4 eT H locs hP hD hS => ?_)
  replace hR := stK_e eT hR
  clear eT
  obtain ⟨-, -, e3⟩ := re_e hR
  subst e3
  exact W.vret hx hb hr (fun t ht hW => ⟨⟨(), rfl, trivial, by rw [ht]; exact hP, va_K.moved hW.alike hK, hD⟩, hS.F ht⟩) hS.2.2 d_Code_clear_23
set_option maxHeartbeats 4000000 in
set_option maxRecDepth 100000 in
theorem sp_Machine_nextInput (l : Launch) (dC : Nat → ClassId) (dI : Nat → Nat → Nat) (ea ev ad : Nat → Nat) (km : Nat → ClassId) (F : gF) (nf d : Nat) (T0 : gSt) (r0 : Int32) (rl0 : Int64) (T9 : gSt) (hR : rb_Machine_nextInput F nf T0 = some (r0, rl0, T9)) : GMi l dC dI LH ad km ea ev y_Machine_nextInput w_Machine_nextInput (rmD (d + 1)) [.ref (ad 10)] T0 r0 T9 := by
  intro sz
  refine Met.ofW (cc := b_Machine_nextInput) (maxL := 2) (ret := (some .int)) (by decide) rfl ?_
  intro p e s m args below meth c s₁ B hml hv
  obtain ⟨rfl, hsz, hP, hK, hD0, hnw, henv⟩ := hv
  have hx := B.exec
  have hb := B.bytes
  have hr := B.returns
  have hT : ∀ w ∈ lw_good, w.before _ s = true := fun w h => atoms_spec (ws := w_Machine_nextInput) B.pre w (List.mem_cons_of_mem _ h)
  have hown : s.vm.findClass R_Machine = some m.cls := findClass_of_methodNamed B.named
  subst hsz
  have hD := hD0.self (sz := s.heap.size)
  clear hD0
  generalize hAe : va_A (gW LH ad km T0) s.heap.size = A at hD henv ⊢
  have hA : ∀ q : Nat, s.heap.size ≤ q → A q := fun q h => by rw [← hAe]; exact Or.inr h
  have hS : va_S A s.heap s.heap [] := va_S.rf
  have hl := lv_entry ([.ref (ad 10)]) (n := 2) (Nat.le_of_ble_eq_true rfl)
  rw [lg_entry_eq]
  generalize (lg_sl ([.ref (ad 10)]) ++ List.replicate (2 - (lg_sl ([.ref (ad 10)])).length) Slot.unset).toArray = ls at hl ⊢
  have hl : lv_has ls 2 [(0, .ref (ad 10))] := hl
  unfold rb_Machine_nextInput at hR
  refine lv_aload_n hx hb d_Machine_nextInput_0 rfl (lv_at hl 0 rfl) ?_
  refine rd_Machine_73 hx hb hT hown hK hP d_Machine_nextInput_1 ?_
  refine lv_if_ne (tgt := 9) hx hb d_Machine_nextInput_4 (by decide) (fun c1 => ?_) (fun c1 => ?_)
  · replace hR := if_n c1 hR
    refine lv_aload_n hx hb d_Machine_nextInput_9 rfl (lv_at hl 0 rfl) ?_
    refine rd_Machine_30 hx hb hT hown hK hP d_Machine_nextInput_10 ?_
    refine lv_iconst (v := 0) hx hb d_Machine_nextInput_13 (by decide) ?_
    replace hR := gd_e hR
    obtain ⟨b2, hR⟩ := hR
    refine laH_46 hx hb hK hP b2 d_Machine_nextInput_14 ?_
    refine lv_topi (fun z3 e3 => ?_)
    replace hR := vK_e e3 hR
    refine lv_istore_n (lv' := [(1, .int z3), (0, .ref (ad 10))]) hx hb d_Machine_nextInput_15 rfl hl (by decide) rfl (fun ls hl => ?_)
    refine lv_aload_n hx hb d_Machine_nextInput_16 rfl (lv_at hl 1 rfl) ?_
    refine lv_dup hx hb d_Machine_nextInput_17 rfl ?_
    refine rd_Machine_73 hx hb hT hown hK hP d_Machine_nextInput_18 ?_
    refine lv_iconst (v := 1) hx hb d_Machine_nextInput_21 (by decide) ?_
    refine lv_isub hx hb d_Machine_nextInput_22 ?_
    refine wr_Machine_73 hx hb hT hown hK hP hD hS d_Machine_nextInput_23 (fun T4 eT H locs hP hD hS => ?_)
    replace hR := stK_e eT hR
    clear eT
    refine lv_aload_n hx hb d_Machine_nextInput_26 rfl (lv_at hl 1 rfl) ?_
    refine rd_Machine_30 hx hb hT hown hK hP d_Machine_nextInput_27 ?_
    refine lv_iconst (v := 1) hx hb d_Machine_nextInput_30 (by decide) ?_
    refine lv_aload_n hx hb d_Machine_nextInput_31 rfl (lv_at hl 1 rfl) ?_
    refine rd_Machine_30 hx hb hT hown hK hP d_Machine_nextInput_32 ?_
    refine lv_iconst (v := 0) hx hb d_Machine_nextInput_35 (by decide) ?_
    refine lv_aload_n hx hb d_Machine_nextInput_36 rfl (lv_at hl 1 rfl) ?_
    refine rd_Machine_73 hx hb hT hown hK hP d_Machine_nextInput_37 ?_
    replace hR := gd_e hR
    obtain ⟨b5, hR⟩ := hR
    refine gw_copy okH hx hb (hml.trans hl.1.symm) hT hown (hT _ ml_Machine_161) (hT _ na_arraycopy) (hT _ st_arraycopy) hK hP hD hS 46 110 100 58 (Nat.le_of_ble_eq_true rfl) rfl rfl rfl rfl rfl (by decide) (by decide) (cp_ok b5).1 (cp_ok b5).2.1 (cp_ok b5).2.2 rm_f1 (rm_l1 (by decide)) d_Machine_nextInput_40 (fun T5 eT H locs hP hD hS => ?_)
    replace hR := stK_e eT hR
    clear eT
    refine lv_iload_n hx hb d_Machine_nextInput_43 rfl (lv_at hl 0 rfl) ?_
    obtain ⟨e1, -, e3⟩ := re_e hR
    subst e1; subst e3
    exact W.iret (v := z3) hx hb hr (fun t ht hW => ⟨⟨z3, (), rfl, rfl, by rw [ht]; exact hP, va_K.moved hW.alike hK, hD⟩, hS.F ht⟩) hS.2.2 d_Machine_nextInput_44
  · replace hR := if_p c1 hR
    refine lv_iconst (v := 0) hx hb d_Machine_nextInput_7 (by decide) ?_
    obtain ⟨e1, -, e3⟩ := re_e hR
    subst e1; subst e3
    exact W.iret (v := (0 : Int32)) hx hb hr (fun t ht hW => ⟨⟨(0 : Int32), (), rfl, rfl, by rw [ht]; exact hP, va_K.moved hW.alike hK, hD⟩, hS.F ht⟩) hS.2.2 d_Machine_nextInput_8
set_option maxHeartbeats 4000000 in
set_option maxRecDepth 100000 in
theorem sp_Memory_begin (l : Launch) (dC : Nat → ClassId) (dI : Nat → Nat → Nat) (ea ev ad : Nat → Nat) (km : Nat → ClassId) (F : gF) (nf d : Nat) (h_Memory_open : mt_Memory_open l dC dI ea ev ad km F d) (T0 : gSt) (p1 : Int32) (p2 : Int32) (r0 : Int32) (rl0 : Int64) (T9 : gSt) (hR : rb_Memory_begin F nf T0 p1 p2 = some (r0, rl0, T9)) : GMv l dC dI LH ad km ea ev y_Memory_begin w_Memory_begin (rmD (d + 1)) [.ref (ad 11), .int p1, .int p2] T0 T9 := by
  intro sz
  refine Met.ofW (cc := b_Memory_begin) (maxL := 3) (ret := none) (by decide) rfl ?_
  intro p e s m args below meth c s₁ B hml hv
  obtain ⟨rfl, hsz, hP, hK, hD0, hnw, henv⟩ := hv
  have hx := B.exec
  have hb := B.bytes
  have hr := B.returns
  have hT : ∀ w ∈ lw_good, w.before _ s = true := fun w h => atoms_spec (ws := w_Memory_begin) B.pre w (List.mem_cons_of_mem _ h)
  have hown : s.vm.findClass R_Memory = some m.cls := findClass_of_methodNamed B.named
  subst hsz
  have hD := hD0.self (sz := s.heap.size)
  clear hD0
  generalize hAe : va_A (gW LH ad km T0) s.heap.size = A at hD henv ⊢
  have hA : ∀ q : Nat, s.heap.size ≤ q → A q := fun q h => by rw [← hAe]; exact Or.inr h
  have hS : va_S A s.heap s.heap [] := va_S.rf
  have hl := lv_entry ([.ref (ad 11), .int p1, .int p2]) (n := 3) (Nat.le_of_ble_eq_true rfl)
  rw [lg_entry_eq]
  generalize (lg_sl ([.ref (ad 11), .int p1, .int p2]) ++ List.replicate (3 - (lg_sl ([.ref (ad 11), .int p1, .int p2])).length) Slot.unset).toArray = ls at hl ⊢
  have hl : lv_has ls 3 [(0, .ref (ad 11)), (1, .int p1), (2, .int p2)] := hl
  unfold rb_Memory_begin at hR
  refine lv_aload_n hx hb d_Memory_begin_0 rfl (lv_at hl 0 rfl) ?_
  refine lv_iconst (v := 0) hx hb d_Memory_begin_1 (by decide) ?_
  refine lv_iload_n hx hb d_Memory_begin_2 rfl (lv_at hl 1 rfl) ?_
  refine lv_bipush (v := 64) hx hb d_Memory_begin_3 (by decide) ?_
  refine va_mmin hx hb (hml.trans hl.1.symm) hown (hT _ ml_Memory_39) (hT _ st_Math_min) (hT _ ini_Math) (hT _ co_Math_min) rm_f1 (rm_l1 (Nat.le_of_ble_eq_true rfl)) (Nat.le_refl _) (Nat.le_refl _) d_Memory_begin_5 ?_
  refine va_mmax hx hb (hml.trans hl.1.symm) hown (hT _ ml_Memory_45) (hT _ st_Math_max) (hT _ ini_Math) (hT _ co_Math_max) rm_f1 (rm_l1 (Nat.le_of_ble_eq_true rfl)) (Nat.le_refl _) (Nat.le_refl _) d_Memory_begin_8 ?_
  refine wr_Memory_48 hx hb hT hown hK hP hD hS d_Memory_begin_11 (fun T1 eT H locs hP hD hS => ?_)
  replace hR := stK_e eT hR
  clear eT
  refine lv_aload_n hx hb d_Memory_begin_14 rfl (lv_at hl 0 rfl) ?_
  refine lv_iconst (v := 0) hx hb d_Memory_begin_15 (by decide) ?_
  refine lv_iload_n hx hb d_Memory_begin_16 rfl (lv_at hl 2 rfl) ?_
  refine lv_bipush (v := 64) hx hb d_Memory_begin_17 (by decide) ?_
  refine va_mmin hx hb (hml.trans hl.1.symm) hown (hT _ ml_Memory_39) (hT _ st_Math_min) (hT _ ini_Math) (hT _ co_Math_min) rm_f1 (rm_l1 (Nat.le_of_ble_eq_true rfl)) (Nat.le_refl _) (Nat.le_refl _) d_Memory_begin_19 ?_
  refine va_mmax hx hb (hml.trans hl.1.symm) hown (hT _ ml_Memory_45) (hT _ st_Math_max) (hT _ ini_Math) (hT _ co_Math_max) rm_f1 (rm_l1 (Nat.le_of_ble_eq_true rfl)) (Nat.le_refl _) (Nat.le_refl _) d_Memory_begin_22 ?_
  refine wr_Memory_52 hx hb hT hown hK hP hD hS d_Memory_begin_25 (fun T2 eT H locs hP hD hS => ?_)
  replace hR := stK_e eT hR
  clear eT
  refine lv_aload_n hx hb d_Memory_begin_28 rfl (lv_at hl 0 rfl) ?_
  refine lv_iconst (v := 0) hx hb d_Memory_begin_29 (by decide) ?_
  refine wr_Memory_55 hx hb hT hown hK hP hD hS d_Memory_begin_30 (fun T3 eT H locs hP hD hS => ?_)
  replace hR := stK_e eT hR
  clear eT
  refine lv_aload_n hx hb d_Memory_begin_33 rfl (lv_at hl 0 rfl) ?_
  refine lv_iconst (v := 0) hx hb d_Memory_begin_34 (by decide) ?_
  refine wr_Memory_58 hx hb hT hown hK hP hD hS d_Memory_begin_35 (fun T4 eT H locs hP hD hS => ?_)
  replace hR := stK_e eT hR
  clear eT
  refine lv_aload_n hx hb d_Memory_begin_38 rfl (lv_at hl 0 rfl) ?_
  refine lv_iconst (v := 0) hx hb d_Memory_begin_39 (by decide) ?_
  refine wr_Memory_61 hx hb hT hown hK hP hD hS d_Memory_begin_40 (fun T5 eT H locs hP hD hS => ?_)
  replace hR := stK_e eT hR
  clear eT
  refine lv_aload_n hx hb d_Memory_begin_43 rfl (lv_at hl 0 rfl) ?_
  refine lv_iconst (v := 0) hx hb d_Memory_begin_44 (by decide) ?_
  refine wr_Memory_64 hx hb hT hown hK hP hD hS d_Memory_begin_45 (fun T6 eT H locs hP hD hS => ?_)
  replace hR := stK_e eT hR
  clear eT
  refine lv_aload_n hx hb d_Memory_begin_48 rfl (lv_at hl 0 rfl) ?_
  refine rd_Memory_21 hx hb hT hown hK hP d_Memory_begin_49 ?_
  refine lv_iconst (v := (-1)) hx hb d_Memory_begin_52 (by decide) ?_
  refine gcS_v (rest := []) ⟨hx, hb, hml, hown, hT⟩ (lift_fill okH l dC dI ea ev ad km d T6 50 116 64 62 (Nat.le_of_ble_eq_true rfl) rfl rfl rfl rfl rfl (by decide) (-1 : Int32)) (va_cwS 2 hT (gS ml_Memory_67 st_Arr_fill ini_Arr co_Arr_fill) rfl rfl rfl (by decide +kernel) ⟨rm_hi, rm_lo (Nat.le_of_ble_eq_true rfl)⟩) hK hP hD hS hA hnw henv rfl hl.1 rfl (Nat.le_of_ble_eq_true rfl) d_Memory_begin_53 ⟨Nat.le_refl _, Nat.le_refl _⟩ (fun T7 eT H locs hP hD hS => ?_)
  replace hR := stK_e eT hR
  clear eT
  refine lv_aload_n hx hb d_Memory_begin_56 rfl (lv_at hl 0 rfl) ?_
  replace hR := bi_e hR
  obtain ⟨r8, l8, T8, hc8, hR⟩ := hR
  refine gcV_i (rest := []) ⟨hx, hb, hml, hown, hT⟩ (h_Memory_open _ _ _ _ hc8) (cwV 0 hT (gV ml_Memory_73 im_Memory_open se_Memory_open ini_Memory co_Memory_open) rfl rfl rfl pd_Memory_open ⟨rm_hi, rm_lo (Nat.le_of_ble_eq_true rfl)⟩) hK hP hD hS hA hnw henv (Nat.le_of_ble_eq_true rfl) rfl rfl hl.1 rfl (Nat.le_of_ble_eq_true rfl) d_Memory_begin_57 ⟨Nat.le_refl _, Nat.le_refl _⟩ (fun H locs hP hD hS => ?_)
  clear hc8
  refine lv_pop hx hb d_Memory_begin_60 rfl ?_
  obtain ⟨-, -, e3⟩ := re_e hR
  subst e3
  exact W.vret hx hb hr (fun t ht hW => ⟨⟨(), rfl, trivial, by rw [ht]; exact hP, va_K.moved hW.alike hK, hD⟩, hS.F ht⟩) hS.2.2 d_Memory_begin_61
