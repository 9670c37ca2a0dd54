/-! the law's cases over two graphs, for any invariant I */
-/
def LCal (l : Launch) (s : State) (b : Nat) (dC : Nat → ClassId) (dI : Nat → Nat → Nat) (ea ev : Nat → Nat) (L : gL) (ad : Nat → Nat) (km : Nat → ClassId) (C : String) (ix na : Nat) (As : List Value) (T : gSt) (r : Int32) (T' : gSt) : Prop := ∃ (y : MethodName) (ws : List Cond) (rm : Room) (bytes : ByteArray) (mL : Nat) (ret : Option FieldType), GMi l dC dI L ad km ea ev y ws rm (.ref (ad 0) :: As) T r T' ∧ CallW room_1 s #[Value.ref b] R_law C ix y bytes mL ret ws rm 0 0 na
def LTwo (l : Launch) (s : State) (b : Nat) (dC : Nat → ClassId) (dI : Nat → Nat → Nat) (ea ev adH adM : Nat → Nat) (kmH kmM : Nat → ClassId) (I : Nat → gSt → gSt → Prop) (ixH ixM na : Nat) (As : List Value) (n : Nat) (M T : gSt) : Prop := ∃ (r : Int32) (M' T' : gSt), LCal l s b dC dI ea ev LH adH kmH R_House ixH na As T r T' ∧ LCal l s b dC dI ea ev LM adM kmM R_Model ixM na As M r M' ∧ I (n + 1) M' T'
def LStp (l : Launch) (s : State) (b : Nat) (dC : Nat → ClassId) (dI : Nat → Nat → Nat) (ea ev adH adM : Nat → Nat) (kmH kmM : Nat → ClassId) (I : Nat → gSt → gSt → Prop) : Prop := ∀ (n : Nat) (M T : gSt), n ≤ 599 → I n M T → I (n + 1) M T ∧
  (∀ (p1 p2 p3 p4 p5 : Int32), LTwo l s b dC dI ea ev adH adM kmH kmM I 13 17 5 [.int p1, .int p2, .int p3, .int p4, .int p5] n M T) ∧
  (∀ (p1 : Int32), LTwo l s b dC dI ea ev adH adM kmH kmM I 18 22 1 [.int p1] n M T) ∧
  (LTwo l s b dC dI ea ev adH adM kmH kmM I 23 27 0 [] n M T) ∧
  (∀ (p1 : Int32), LTwo l s b dC dI ea ev adH adM kmH kmM I 28 31 1 [.int p1] n M T) ∧
  (∀ (p1 : Int32), LTwo l s b dC dI ea ev adH adM kmH kmM I 32 35 1 [.int p1] n M T) ∧
  (∀ (p1 p2 : Int32), LTwo l s b dC dI ea ev adH adM kmH kmM I 36 40 2 [.int p1, .int p2] n M T) ∧
  (∀ (p1 : Int32), LTwo l s b dC dI ea ev adH adM kmH kmM I 41 44 1 [.int p1] n M T) ∧
  (∀ (p1 : Int32), LTwo l s b dC dI ea ev adH adM kmH kmM I 45 48 1 [.int p1] n M T) ∧
  (∀ (p1 : Int32), LTwo l s b dC dI ea ev adH adM kmH kmM I 49 52 1 [.int p1] n M T) ∧
  (∀ (p1 : Int32), LTwo l s b dC dI ea ev adH adM kmH kmM I 53 56 1 [.int p1] n M T) ∧
  (∀ (p1 p2 : Int32), LTwo l s b dC dI ea ev adH adM kmH kmM I 57 61 2 [.int p1, .int p2] n M T) ∧
  (∀ (p1 : Int32), LTwo l s b dC dI ea ev adH adM kmH kmM I 62 65 1 [.int p1] n M T)
set_option maxHeartbeats 4000000 in
set_option maxRecDepth 100000 in
theorem law_g0 {p : Program} {e : Env} {s : State} {m : MethodId} {below : List Frame} {meth : Method} {c : Code} (l : Launch) {b L : Nat} {xs : Nat → Int32} {A : Nat → Prop} {ea ev : Nat → Nat} {dC : Nat → ClassId} {dI : Nat → Nat → Nat} {Q : State → Prop} {adH adM : Nat → Nat} {kmH kmM : Nat → ClassId} {I : Nat → gSt → gSt → Prop} (hx : p.tables.exec = Jvm.exec) (hb : c.code = code) (hml : c.maxLocals = 4) (hown : s.vm.findClass R_law = some m.cls) (hT : ∀ w ∈ lw_good, w.before #[Value.ref b] s = true) (hnw : nw_all s) (henv : env0 ea ev A s s.heap) (hX : va_X b L xs s s.heap) (hbl : b < s.heap.size) (hbA : ¬ A b) (hL : L ≤ 3072) (hA : ∀ q : Nat, s.heap.size ≤ q → A q) (hKH : va_K (dC, dI) cls_all (gT LH kmH) s) (hKM : va_K (dC, dI) cls_all (gT LM kmM) s) (apt : Apt (gO LH + gA LH) (gO LM + gA LM) adH adM) {H : Heap} {locs : List Loc} {ls : Array Slot} {i n : Nat} {M T : gSt} (hi : i + 6 ≤ L) (hPH : va_P (dC, dI) cls_all (gW LH adH kmH T) H) (hDH : va_D A (gW LH adH kmH T)) (hPM : va_P (dC, dI) cls_all (gW LM adM kmM M) H) (hDM : va_D A (gW LM adM kmM M)) (bH : Blw (gO LH + gA LH) adH H.size) (bM : Blw (gO LM + gA LM) adM H.size) (hS : va_S A s.heap H locs) (hl : lv_has ls 4 [(3, .int (nI i)), (2, .ref (adM 0)), (1, .ref (adH 0)), (0, .ref b)]) (two : LTwo l s b dC dI ea ev adH adM kmH kmM I 13 17 5 [.int (xs (i + 1)), .int (xs (i + 2)), .int (xs (i + 3)), .int (xs (i + 4)), .int (xs (i + 5))] n M T) (kk : ∀ (M T : gSt) (H : Heap) (locs : List Loc) (ls : Array Slot), I (n + 1) M T → va_P (dC, dI) cls_all (gW LH adH kmH T) H → va_D A (gW LH adH kmH T) → va_P (dC, dI) cls_all (gW LM adM kmM M) H → va_D A (gW LM adM kmM M) → Blw (gO LH + gA LH) adH H.size → Blw (gO LM + gA LM) adM H.size → va_S A s.heap H locs → lv_has ls 4 [(3, .int (nI i)), (2, .ref (adM 0)), (1, .ref (adH 0)), (0, .ref b)] → W p l e room_1 s m #[Value.ref b] below meth c H locs 246 442276 Q (F0 m 422 ls [])) : W p l e room_1 s m #[Value.ref b] below meth c H locs 246 442276 Q (F0 m 96 ls []) := by
  obtain ⟨r, M', T', ⟨yH, wsH, rmH, byH, mLH, retH, gH, cwH⟩, ⟨yM, wsM, rmM, byM, mLM, retM, gM, cwM⟩, inv2⟩ := two
  refine lv_aload_n hx hb d_law_96 rfl (lv_at hl 2 rfl) ?_
  refine lv_aload_n hx hb d_law_97 rfl (lv_at hl 3 rfl) ?_
  refine lv_iload_n hx hb d_law_98 rfl (lv_at hl 0 rfl) ?_
  refine lv_iconst (v := 1) hx hb d_law_99 (by decide) ?_
  refine lv_iadd hx hb d_law_100 ?_
  refine lv_topi (fun x1 e1 => ?_)
  obtain rfl : x1 = nI ((i) + 1) := e1.trans (nI_add (i) 1)
  refine va_sld hx hb hX hbl hbA hS (vp_in_nI (by omega) (by omega)) d_law_101 ?_
  refine lv_topi (fun x2 e2 => ?_)
  obtain rfl : x2 = xs ((i) + 1) := e2.trans (congrArg xs (nI_clamp (by omega)))
  refine lv_aload_n hx hb d_law_102 rfl (lv_at hl 3 rfl) ?_
  refine lv_iload_n hx hb d_law_103 rfl (lv_at hl 0 rfl) ?_
  refine lv_iconst (v := 2) hx hb d_law_104 (by decide) ?_
  refine lv_iadd hx hb d_law_105 ?_
  refine lv_topi (fun x3 e3 => ?_)
  obtain rfl : x3 = nI ((i) + 2) := e3.trans (nI_add (i) 2)
  refine va_sld hx hb hX hbl hbA hS (vp_in_nI (by omega) (by omega)) d_law_106 ?_
  refine lv_topi (fun x4 e4 => ?_)
  obtain rfl : x4 = xs ((i) + 2) := e4.trans (congrArg xs (nI_clamp (by omega)))
  refine lv_aload_n hx hb d_law_107 rfl (lv_at hl 3 rfl) ?_
  refine lv_iload_n hx hb d_law_108 rfl (lv_at hl 0 rfl) ?_
  refine lv_iconst (v := 3) hx hb d_law_109 (by decide) ?_
  refine lv_iadd hx hb d_law_110 ?_
  refine lv_topi (fun x5 e5 => ?_)
  obtain rfl : x5 = nI ((i) + 3) := e5.trans (nI_add (i) 3)
  refine va_sld hx hb hX hbl hbA hS (vp_in_nI (by omega) (by omega)) d_law_111 ?_
  refine lv_topi (fun x6 e6 => ?_)
  obtain rfl : x6 = xs ((i) + 3) := e6.trans (congrArg xs (nI_clamp (by omega)))
  refine lv_aload_n hx hb d_law_112 rfl (lv_at hl 3 rfl) ?_
  refine lv_iload_n hx hb d_law_113 rfl (lv_at hl 0 rfl) ?_
  refine lv_iconst (v := 4) hx hb d_law_114 (by decide) ?_
  refine lv_iadd hx hb d_law_115 ?_
  refine lv_topi (fun x7 e7 => ?_)
  obtain rfl : x7 = nI ((i) + 4) := e7.trans (nI_add (i) 4)
  refine va_sld hx hb hX hbl hbA hS (vp_in_nI (by omega) (by omega)) d_law_116 ?_
  refine lv_topi (fun x8 e8 => ?_)
  obtain rfl : x8 = xs ((i) + 4) := e8.trans (congrArg xs (nI_clamp (by omega)))
  refine lv_aload_n hx hb d_law_117 rfl (lv_at hl 3 rfl) ?_
  refine lv_iload_n hx hb d_law_118 rfl (lv_at hl 0 rfl) ?_
  refine lv_iconst (v := 5) hx hb d_law_119 (by decide) ?_
  refine lv_iadd hx hb d_law_120 ?_
  refine lv_topi (fun x9 e9 => ?_)
  obtain rfl : x9 = nI ((i) + 5) := e9.trans (nI_add (i) 5)
  refine va_sld hx hb hX hbl hbA hS (vp_in_nI (by omega) (by omega)) d_law_121 ?_
  refine lv_topi (fun x10 e10 => ?_)
  obtain rfl : x10 = xs ((i) + 5) := e10.trans (congrArg xs (nI_clamp (by omega)))
  refine gcV_i2 (o := 0) (As := [.int (xs (i + 1)), .int (xs (i + 2)), .int (xs (i + 3)), .int (xs (i + 4)), .int (xs (i + 5))]) (rest := []) ⟨hx, hb, hml, hown, hT⟩ gH cwH hKH hPH hDH hS hA hnw henv (Nat.le_of_ble_eq_true rfl) rfl rfl hl.1 rfl (Nat.le_of_ble_eq_true rfl) d_law_122 ⟨Nat.le_of_ble_eq_true rfl, Nat.le_of_ble_eq_true rfl⟩ hPM bM.w apt.w (fun H1 locs1 hPH hDH hS hz hPM => ?_)
  have bH := bH.up hz
  have bM := bM.up hz
  refine lv_aload_n hx hb d_law_125 rfl (lv_at hl 1 rfl) ?_
  refine lv_aload_n hx hb d_law_126 rfl (lv_at hl 3 rfl) ?_
  refine lv_iload_n hx hb d_law_127 rfl (lv_at hl 0 rfl) ?_
  refine lv_iconst (v := 1) hx hb d_law_128 (by decide) ?_
  refine lv_iadd hx hb d_law_129 ?_
  refine lv_topi (fun x11 e11 => ?_)
  obtain rfl : x11 = nI ((i) + 1) := e11.trans (nI_add (i) 1)
  refine va_sld hx hb hX hbl hbA hS (vp_in_nI (by omega) (by omega)) d_law_130 ?_
  refine lv_topi (fun x12 e12 => ?_)
  obtain rfl : x12 = xs ((i) + 1) := e12.trans (congrArg xs (nI_clamp (by omega)))
  refine lv_aload_n hx hb d_law_131 rfl (lv_at hl 3 rfl) ?_
  refine lv_iload_n hx hb d_law_132 rfl (lv_at hl 0 rfl) ?_
  refine lv_iconst (v := 2) hx hb d_law_133 (by decide) ?_
  refine lv_iadd hx hb d_law_134 ?_
  refine lv_topi (fun x13 e13 => ?_)
  obtain rfl : x13 = nI ((i) + 2) := e13.trans (nI_add (i) 2)
  refine va_sld hx hb hX hbl hbA hS (vp_in_nI (by omega) (by omega)) d_law_135 ?_
  refine lv_topi (fun x14 e14 => ?_)
  obtain rfl : x14 = xs ((i) + 2) := e14.trans (congrArg xs (nI_clamp (by omega)))
  refine lv_aload_n hx hb d_law_136 rfl (lv_at hl 3 rfl) ?_
  refine lv_iload_n hx hb d_law_137 rfl (lv_at hl 0 rfl) ?_
  refine lv_iconst (v := 3) hx hb d_law_138 (by decide) ?_
  refine lv_iadd hx hb d_law_139 ?_
  refine lv_topi (fun x15 e15 => ?_)
  obtain rfl : x15 = nI ((i) + 3) := e15.trans (nI_add (i) 3)
  refine va_sld hx hb hX hbl hbA hS (vp_in_nI (by omega) (by omega)) d_law_140 ?_
  refine lv_topi (fun x16 e16 => ?_)
  obtain rfl : x16 = xs ((i) + 3) := e16.trans (congrArg xs (nI_clamp (by omega)))
  refine lv_aload_n hx hb d_law_141 rfl (lv_at hl 3 rfl) ?_
  refine lv_iload_n hx hb d_law_142 rfl (lv_at hl 0 rfl) ?_
  refine lv_iconst (v := 4) hx hb d_law_143 (by decide) ?_
  refine lv_iadd hx hb d_law_144 ?_
  refine lv_topi (fun x17 e17 => ?_)
  obtain rfl : x17 = nI ((i) + 4) := e17.trans (nI_add (i) 4)
  refine va_sld hx hb hX hbl hbA hS (vp_in_nI (by omega) (by omega)) d_law_145 ?_
  refine lv_topi (fun x18 e18 => ?_)
  obtain rfl : x18 = xs ((i) + 4) := e18.trans (congrArg xs (nI_clamp (by omega)))
  refine lv_aload_n hx hb d_law_146 rfl (lv_at hl 3 rfl) ?_
  refine lv_iload_n hx hb d_law_147 rfl (lv_at hl 0 rfl) ?_
  refine lv_iconst (v := 5) hx hb d_law_148 (by decide) ?_
  refine lv_iadd hx hb d_law_149 ?_
  refine lv_topi (fun x19 e19 => ?_)
  obtain rfl : x19 = nI ((i) + 5) := e19.trans (nI_add (i) 5)
  refine va_sld hx hb hX hbl hbA hS (vp_in_nI (by omega) (by omega)) d_law_150 ?_
  refine lv_topi (fun x20 e20 => ?_)
  obtain rfl : x20 = xs ((i) + 5) := e20.trans (congrArg xs (nI_clamp (by omega)))
  refine gcV_i2 (o := 0) (As := [.int (xs (i + 1)), .int (xs (i + 2)), .int (xs (i + 3)), .int (xs (i + 4)), .int (xs (i + 5))]) (rest := [.int r]) ⟨hx, hb, hml, hown, hT⟩ gM cwM hKM hPM hDM hS hA hnw henv (Nat.le_of_ble_eq_true rfl) rfl rfl hl.1 rfl (Nat.le_of_ble_eq_true rfl) d_law_151 ⟨Nat.le_of_ble_eq_true rfl, Nat.le_of_ble_eq_true rfl⟩ hPH bH.w apt.sy.w (fun H2 locs2 hPM hDM hS hz hPH => ?_)
  have bH := bH.up hz
  have bM := bM.up hz
  refine lv_icmp_eq (tgt := 422) hx hb d_law_154 (by decide) (fun _ => ?_) (fun c1 => absurd rfl c1)
  exact kk _ _ _ _ _ inv2 hPH hDH hPM hDM bH bM hS hl
set_option maxHeartbeats 4000000 in
set_option maxRecDepth 100000 in
theorem law_g1 {p : Program} {e : Env} {s : State} {m : MethodId} {below : List Frame} {meth : Method} {c : Code} (l : Launch) {b L : Nat} {xs : Nat → Int32} {A : Nat → Prop} {ea ev : Nat → Nat} {dC : Nat → ClassId} {dI : Nat → Nat → Nat} {Q : State → Prop} {adH adM : Nat → Nat} {kmH kmM : Nat → ClassId} {I : Nat → gSt → gSt → Prop} (hx : p.tables.exec = Jvm.exec) (hb : c.code = code) (hml : c.maxLocals = 4) (hown : s.vm.findClass R_law = some m.cls) (hT : ∀ w ∈ lw_good, w.before #[Value.ref b] s = true) (hnw : nw_all s) (henv : env0 ea ev A s s.heap) (hX : va_X b L xs s s.heap) (hbl : b < s.heap.size) (hbA : ¬ A b) (hL : L ≤ 3072) (hA : ∀ q : Nat, s.heap.size ≤ q → A q) (hKH : va_K (dC, dI) cls_all (gT LH kmH) s) (hKM : va_K (dC, dI) cls_all (gT LM kmM) s) (apt : Apt (gO LH + gA LH) (gO LM + gA LM) adH adM) {H : Heap} {locs : List Loc} {ls : Array Slot} {i n : Nat} {M T : gSt} (hi : i + 6 ≤ L) (hPH : va_P (dC, dI) cls_all (gW LH adH kmH T) H) (hDH : va_D A (gW LH adH kmH T)) (hPM : va_P (dC, dI) cls_all (gW LM adM kmM M) H) (hDM : va_D A (gW LM adM kmM M)) (bH : Blw (gO LH + gA LH) adH H.size) (bM : Blw (gO LM + gA LM) adM H.size) (hS : va_S A s.heap H locs) (hl : lv_has ls 4 [(3, .int (nI i)), (2, .ref (adM 0)), (1, .ref (adH 0)), (0, .ref b)]) (two : LTwo l s b dC dI ea ev adH adM kmH kmM I 18 22 1 [.int (xs (i + 1))] n M T) (kk : ∀ (M T : gSt) (H : Heap) (locs : List Loc) (ls : Array Slot), I (n + 1) M T → va_P (dC, dI) cls_all (gW LH adH kmH T) H → va_D A (gW LH adH kmH T) → va_P (dC, dI) cls_all (gW LM adM kmM M) H → va_D A (gW LM adM kmM M) → Blw (gO LH + gA LH) adH H.size → Blw (gO LM + gA LM) adM H.size → va_S A s.heap H locs → lv_has ls 4 [(3, .int (nI i)), (2, .ref (adM 0)), (1, .ref (adH 0)), (0, .ref b)] → W p l e room_1 s m #[Value.ref b] below meth c H locs 246 442276 Q (F0 m 422 ls [])) : W p l e room_1 s m #[Value.ref b] below meth c H locs 246 442276 Q (F0 m 159 ls []) := by
  obtain ⟨r, M', T', ⟨yH, wsH, rmH, byH, mLH, retH, gH, cwH⟩, ⟨yM, wsM, rmM, byM, mLM, retM, gM, cwM⟩, inv2⟩ := two
  refine lv_aload_n hx hb d_law_159 rfl (lv_at hl 2 rfl) ?_
  refine lv_aload_n hx hb d_law_160 rfl (lv_at hl 3 rfl) ?_
  refine lv_iload_n hx hb d_law_161 rfl (lv_at hl 0 rfl) ?_
  refine lv_iconst (v := 1) hx hb d_law_162 (by decide) ?_
  refine lv_iadd hx hb d_law_163 ?_
  refine lv_topi (fun x1 e1 => ?_)
  obtain rfl : x1 = nI ((i) + 1) := e1.trans (nI_add (i) 1)
  refine va_sld hx hb hX hbl hbA hS (vp_in_nI (by omega) (by omega)) d_law_164 ?_
  refine lv_topi (fun x2 e2 => ?_)
  obtain rfl : x2 = xs ((i) + 1) := e2.trans (congrArg xs (nI_clamp (by omega)))
  refine gcV_i2 (o := 0) (As := [.int (xs (i + 1))]) (rest := []) ⟨hx, hb, hml, hown, hT⟩ gH cwH hKH hPH hDH hS hA hnw henv (Nat.le_of_ble_eq_true rfl) rfl rfl hl.1 rfl (Nat.le_of_ble_eq_true rfl) d_law_165 ⟨Nat.le_of_ble_eq_true rfl, Nat.le_of_ble_eq_true rfl⟩ hPM bM.w apt.w (fun H1 locs1 hPH hDH hS hz hPM => ?_)
  have bH := bH.up hz
  have bM := bM.up hz
  refine lv_aload_n hx hb d_law_168 rfl (lv_at hl 1 rfl) ?_
  refine lv_aload_n hx hb d_law_169 rfl (lv_at hl 3 rfl) ?_
  refine lv_iload_n hx hb d_law_170 rfl (lv_at hl 0 rfl) ?_
  refine lv_iconst (v := 1) hx hb d_law_171 (by decide) ?_
  refine lv_iadd hx hb d_law_172 ?_
  refine lv_topi (fun x3 e3 => ?_)
  obtain rfl : x3 = nI ((i) + 1) := e3.trans (nI_add (i) 1)
  refine va_sld hx hb hX hbl hbA hS (vp_in_nI (by omega) (by omega)) d_law_173 ?_
  refine lv_topi (fun x4 e4 => ?_)
  obtain rfl : x4 = xs ((i) + 1) := e4.trans (congrArg xs (nI_clamp (by omega)))
  refine gcV_i2 (o := 0) (As := [.int (xs (i + 1))]) (rest := [.int r]) ⟨hx, hb, hml, hown, hT⟩ gM cwM hKM hPM hDM hS hA hnw henv (Nat.le_of_ble_eq_true rfl) rfl rfl hl.1 rfl (Nat.le_of_ble_eq_true rfl) d_law_174 ⟨Nat.le_of_ble_eq_true rfl, Nat.le_of_ble_eq_true rfl⟩ hPH bH.w apt.sy.w (fun H2 locs2 hPM hDM hS hz hPH => ?_)
  have bH := bH.up hz
  have bM := bM.up hz
  refine lv_icmp_eq (tgt := 422) hx hb d_law_177 (by decide) (fun _ => ?_) (fun c1 => absurd rfl c1)
  exact kk _ _ _ _ _ inv2 hPH hDH hPM hDM bH bM hS hl
set_option maxHeartbeats 4000000 in
set_option maxRecDepth 100000 in
theorem law_g2 {p : Program} {e : Env} {s : State} {m : MethodId} {below : List Frame} {meth : Method} {c : Code} (l : Launch) {b L : Nat} {xs : Nat → Int32} {A : Nat → Prop} {ea ev : Nat → Nat} {dC : Nat → ClassId} {dI : Nat → Nat → Nat} {Q : State → Prop} {adH adM : Nat → Nat} {kmH kmM : Nat → ClassId} {I : Nat → gSt → gSt → Prop} (hx : p.tables.exec = Jvm.exec) (hb : c.code = code) (hml : c.maxLocals = 4) (hown : s.vm.findClass R_law = some m.cls) (hT : ∀ w ∈ lw_good, w.before #[Value.ref b] s = true) (hnw : nw_all s) (henv : env0 ea ev A s s.heap) (hX : va_X b L xs s s.heap) (hbl : b < s.heap.size) (hbA : ¬ A b) (hL : L ≤ 3072) (hA : ∀ q : Nat, s.heap.size ≤ q → A q) (hKH : va_K (dC, dI) cls_all (gT LH kmH) s) (hKM : va_K (dC, dI) cls_all (gT LM kmM) s) (apt : Apt (gO LH + gA LH) (gO LM + gA LM) adH adM) {H : Heap} {locs : List Loc} {ls : Array Slot} {i n : Nat} {M T : gSt} (hi : i + 6 ≤ L) (hPH : va_P (dC, dI) cls_all (gW LH adH kmH T) H) (hDH : va_D A (gW LH adH kmH T)) (hPM : va_P (dC, dI) cls_all (gW LM adM kmM M) H) (hDM : va_D A (gW LM adM kmM M)) (bH : Blw (gO LH + gA LH) adH H.size) (bM : Blw (gO LM + gA LM) adM H.size) (hS : va_S A s.heap H locs) (hl : lv_has ls 4 [(3, .int (nI i)), (2, .ref (adM 0)), (1, .ref (adH 0)), (0, .ref b)]) (two : LTwo l s b dC dI ea ev adH adM kmH kmM I 23 27 0 [] n M T) (kk : ∀ (M T : gSt) (H : Heap) (locs : List Loc) (ls : Array Slot), I (n + 1) M T → va_P (dC, dI) cls_all (gW LH adH kmH T) H → va_D A (gW LH adH kmH T) → va_P (dC, dI) cls_all (gW LM adM kmM M) H → va_D A (gW LM adM kmM M) → Blw (gO LH + gA LH) adH H.size → Blw (gO LM + gA LM) adM H.size → va_S A s.heap H locs → lv_has ls 4 [(3, .int (nI i)), (2, .ref (adM 0)), (1, .ref (adH 0)), (0, .ref b)] → W p l e room_1 s m #[Value.ref b] below meth c H locs 246 442276 Q (F0 m 422 ls [])) : W p l e room_1 s m #[Value.ref b] below meth c H locs 246 442276 Q (F0 m 182 ls []) := by
  obtain ⟨r, M', T', ⟨yH, wsH, rmH, byH, mLH, retH, gH, cwH⟩, ⟨yM, wsM, rmM, byM, mLM, retM, gM, cwM⟩, inv2⟩ := two
  refine lv_aload_n hx hb d_law_182 rfl (lv_at hl 2 rfl) ?_
  refine gcV_i2 (o := 0) (As := []) (rest := []) ⟨hx, hb, hml, hown, hT⟩ gH cwH hKH hPH hDH hS hA hnw henv (Nat.le_of_ble_eq_true rfl) rfl rfl hl.1 rfl (Nat.le_of_ble_eq_true rfl) d_law_183 ⟨Nat.le_of_ble_eq_true rfl, Nat.le_of_ble_eq_true rfl⟩ hPM bM.w apt.w (fun H1 locs1 hPH hDH hS hz hPM => ?_)
  have bH := bH.up hz
  have bM := bM.up hz
  refine lv_aload_n hx hb d_law_186 rfl (lv_at hl 1 rfl) ?_
  refine gcV_i2 (o := 0) (As := []) (rest := [.int r]) ⟨hx, hb, hml, hown, hT⟩ gM cwM hKM hPM hDM hS hA hnw henv (Nat.le_of_ble_eq_true rfl) rfl rfl hl.1 rfl (Nat.le_of_ble_eq_true rfl) d_law_187 ⟨Nat.le_of_ble_eq_true rfl, Nat.le_of_ble_eq_true rfl⟩ hPH bH.w apt.sy.w (fun H2 locs2 hPM hDM hS hz hPH => ?_)
  have bH := bH.up hz
  have bM := bM.up hz
  refine lv_icmp_eq (tgt := 422) hx hb d_law_190 (by decide) (fun _ => ?_) (fun c1 => absurd rfl c1)
  exact kk _ _ _ _ _ inv2 hPH hDH hPM hDM bH bM hS hl
set_option maxHeartbeats 4000000 in
set_option maxRecDepth 100000 in
theorem law_g3 {p : Program} {e : Env} {s : State} {m : MethodId} {below : List Frame} {meth : Method} {c : Code} (l : Launch) {b L : Nat} {xs : Nat → Int32} {A : Nat → Prop} {ea ev : Nat → Nat} {dC : Nat → ClassId} {dI : Nat → Nat → Nat} {Q : State → Prop} {adH adM : Nat → Nat} {kmH kmM : Nat → ClassId} {I : Nat → gSt → gSt → Prop} (hx : p.tables.exec = Jvm.exec) (hb : c.code = code) (hml : c.maxLocals = 4) (hown : s.vm.findClass R_law = some m.cls) (hT : ∀ w ∈ lw_good, w.before #[Value.ref b] s = true) (hnw : nw_all s) (henv : env0 ea ev A s s.heap) (hX : va_X b L xs s s.heap) (hbl : b < s.heap.size) (hbA : ¬ A b) (hL : L ≤ 3072) (hA : ∀ q : Nat, s.heap.size ≤ q → A q) (hKH : va_K (dC, dI) cls_all (gT LH kmH) s) (hKM : va_K (dC, dI) cls_all (gT LM kmM) s) (apt : Apt (gO LH + gA LH) (gO LM + gA LM) adH adM) {H : Heap} {locs : List Loc} {ls : Array Slot} {i n : Nat} {M T : gSt} (hi : i + 6 ≤ L) (hPH : va_P (dC, dI) cls_all (gW LH adH kmH T) H) (hDH : va_D A (gW LH adH kmH T)) (hPM : va_P (dC, dI) cls_all (gW LM adM kmM M) H) (hDM : va_D A (gW LM adM kmM M)) (bH : Blw (gO LH + gA LH) adH H.size) (bM : Blw (gO LM + gA LM) adM H.size) (hS : va_S A s.heap H locs) (hl : lv_has ls 4 [(3, .int (nI i)), (2, .ref (adM 0)), (1, .ref (adH 0)), (0, .ref b)]) (two : LTwo l s b dC dI ea ev adH adM kmH kmM I 28 31 1 [.int (xs (i + 1))] n M T) (kk : ∀ (M T : gSt) (H : Heap) (locs : List Loc) (ls : Array Slot), I (n + 1) M T → va_P (dC, dI) cls_all (gW LH adH kmH T) H → va_D A (gW LH adH kmH T) → va_P (dC, dI) cls_all (gW LM adM kmM M) H → va_D A (gW LM adM kmM M) → Blw (gO LH + gA LH) adH H.size → Blw (gO LM + gA LM) adM H.size → va_S A s.heap H locs → lv_has ls 4 [(3, .int (nI i)), (2, .ref (adM 0)), (1, .ref (adH 0)), (0, .ref b)] → W p l e room_1 s m #[Value.ref b] below meth c H locs 246 442276 Q (F0 m 422 ls [])) : W p l e room_1 s m #[Value.ref b] below meth c H locs 246 442276 Q (F0 m 195 ls []) := by
  obtain ⟨r, M', T', ⟨yH, wsH, rmH, byH, mLH, retH, gH, cwH⟩, ⟨yM, wsM, rmM, byM, mLM, retM, gM, cwM⟩, inv2⟩ := two
  refine lv_aload_n hx hb d_law_195 rfl (lv_at hl 2 rfl) ?_
  refine lv_aload_n hx hb d_law_196 rfl (lv_at hl 3 rfl) ?_
  refine lv_iload_n hx hb d_law_197 rfl (lv_at hl 0 rfl) ?_
  refine lv_iconst (v := 1) hx hb d_law_198 (by decide) ?_
  refine lv_iadd hx hb d_law_199 ?_
  refine lv_topi (fun x1 e1 => ?_)
  obtain rfl : x1 = nI ((i) + 1) := e1.trans (nI_add (i) 1)
  refine va_sld hx hb hX hbl hbA hS (vp_in_nI (by omega) (by omega)) d_law_200 ?_
  refine lv_topi (fun x2 e2 => ?_)
  obtain rfl : x2 = xs ((i) + 1) := e2.trans (congrArg xs (nI_clamp (by omega)))
  refine gcV_i2 (o := 0) (As := [.int (xs (i + 1))]) (rest := []) ⟨hx, hb, hml, hown, hT⟩ gH cwH hKH hPH hDH hS hA hnw henv (Nat.le_of_ble_eq_true rfl) rfl rfl hl.1 rfl (Nat.le_of_ble_eq_true rfl) d_law_201 ⟨Nat.le_of_ble_eq_true rfl, Nat.le_of_ble_eq_true rfl⟩ hPM bM.w apt.w (fun H1 locs1 hPH hDH hS hz hPM => ?_)
  have bH := bH.up hz
  have bM := bM.up hz
  refine lv_aload_n hx hb d_law_204 rfl (lv_at hl 1 rfl) ?_
  refine lv_aload_n hx hb d_law_205 rfl (lv_at hl 3 rfl) ?_
  refine lv_iload_n hx hb d_law_206 rfl (lv_at hl 0 rfl) ?_
  refine lv_iconst (v := 1) hx hb d_law_207 (by decide) ?_
  refine lv_iadd hx hb d_law_208 ?_
  refine lv_topi (fun x3 e3 => ?_)
  obtain rfl : x3 = nI ((i) + 1) := e3.trans (nI_add (i) 1)
  refine va_sld hx hb hX hbl hbA hS (vp_in_nI (by omega) (by omega)) d_law_209 ?_
  refine lv_topi (fun x4 e4 => ?_)
  obtain rfl : x4 = xs ((i) + 1) := e4.trans (congrArg xs (nI_clamp (by omega)))
  refine gcV_i2 (o := 0) (As := [.int (xs (i + 1))]) (rest := [.int r]) ⟨hx, hb, hml, hown, hT⟩ gM cwM hKM hPM hDM hS hA hnw henv (Nat.le_of_ble_eq_true rfl) rfl rfl hl.1 rfl (Nat.le_of_ble_eq_true rfl) d_law_210 ⟨Nat.le_of_ble_eq_true rfl, Nat.le_of_ble_eq_true rfl⟩ hPH bH.w apt.sy.w (fun H2 locs2 hPM hDM hS hz hPH => ?_)
  have bH := bH.up hz
  have bM := bM.up hz
  refine lv_icmp_eq (tgt := 422) hx hb d_law_213 (by decide) (fun _ => ?_) (fun c1 => absurd rfl c1)
  exact kk _ _ _ _ _ inv2 hPH hDH hPM hDM bH bM hS hl
set_option maxHeartbeats 4000000 in
set_option maxRecDepth 100000 in
theorem law_g4 {p : Program} {e : Env} {s : State} {m : MethodId} {below : List Frame} {meth : Method} {c : Code} (l : Launch) {b L : Nat} {xs : Nat → Int32} {A : Nat → Prop} {ea ev : Nat → Nat} {dC : Nat → ClassId} {dI : Nat → Nat → Nat} {Q : State → Prop} {adH adM : Nat → Nat} {kmH kmM : Nat → ClassId} {I : Nat → gSt → gSt → Prop} (hx : p.tables.exec = Jvm.exec) (hb : c.code = code) (hml : c.maxLocals = 4) (hown : s.vm.findClass R_law = some m.cls) (hT : ∀ w ∈ lw_good, w.before #[Value.ref b] s = true) (hnw : nw_all s) (henv : env0 ea ev A s s.heap) (hX : va_X b L xs s s.heap) (hbl : b < s.heap.size) (hbA : ¬ A b) (hL : L ≤ 3072) (hA : ∀ q : Nat, s.heap.size ≤ q → A q) (hKH : va_K (dC, dI) cls_all (gT LH kmH) s) (hKM : va_K (dC, dI) cls_all (gT LM kmM) s) (apt : Apt (gO LH + gA LH) (gO LM + gA LM) adH adM) {H : Heap} {locs : List Loc} {ls : Array Slot} {i n : Nat} {M T : gSt} (hi : i + 6 ≤ L) (hPH : va_P (dC, dI) cls_all (gW LH adH kmH T) H) (hDH : va_D A (gW LH adH kmH T)) (hPM : va_P (dC, dI) cls_all (gW LM adM kmM M) H) (hDM : va_D A (gW LM adM kmM M)) (bH : Blw (gO LH + gA LH) adH H.size) (bM : Blw (gO LM + gA LM) adM H.size) (hS : va_S A s.heap H locs) (hl : lv_has ls 4 [(3, .int (nI i)), (2, .ref (adM 0)), (1, .ref (adH 0)), (0, .ref b)]) (two : LTwo l s b dC dI ea ev adH adM kmH kmM I 32 35 1 [.int (xs (i + 1))] n M T) (kk : ∀ (M T : gSt) (H : Heap) (locs : List Loc) (ls : Array Slot), I (n + 1) M T → va_P (dC, dI) cls_all (gW LH adH kmH T) H → va_D A (gW LH adH kmH T) → va_P (dC, dI) cls_all (gW LM adM kmM M) H → va_D A (gW LM adM kmM M) → Blw (gO LH + gA LH) adH H.size → Blw (gO LM + gA LM) adM H.size → va_S A s.heap H locs → lv_has ls 4 [(3, .int (nI i)), (2, .ref (adM 0)), (1, .ref (adH 0)), (0, .ref b)] → W p l e room_1 s m #[Value.ref b] below meth c H locs 246 442276 Q (F0 m 422 ls [])) : W p l e room_1 s m #[Value.ref b] below meth c H locs 246 442276 Q (F0 m 218 ls []) := by
  obtain ⟨r, M', T', ⟨yH, wsH, rmH, byH, mLH, retH, gH, cwH⟩, ⟨yM, wsM, rmM, byM, mLM, retM, gM, cwM⟩, inv2⟩ := two
  refine lv_aload_n hx hb d_law_218 rfl (lv_at hl 2 rfl) ?_
  refine lv_aload_n hx hb d_law_219 rfl (lv_at hl 3 rfl) ?_
  refine lv_iload_n hx hb d_law_220 rfl (lv_at hl 0 rfl) ?_
  refine lv_iconst (v := 1) hx hb d_law_221 (by decide) ?_
  refine lv_iadd hx hb d_law_222 ?_
  refine lv_topi (fun x1 e1 => ?_)
  obtain rfl : x1 = nI ((i) + 1) := e1.trans (nI_add (i) 1)
  refine va_sld hx hb hX hbl hbA hS (vp_in_nI (by omega) (by omega)) d_law_223 ?_
  refine lv_topi (fun x2 e2 => ?_)
  obtain rfl : x2 = xs ((i) + 1) := e2.trans (congrArg xs (nI_clamp (by omega)))
  refine gcV_i2 (o := 0) (As := [.int (xs (i + 1))]) (rest := []) ⟨hx, hb, hml, hown, hT⟩ gH cwH hKH hPH hDH hS hA hnw henv (Nat.le_of_ble_eq_true rfl) rfl rfl hl.1 rfl (Nat.le_of_ble_eq_true rfl) d_law_224 ⟨Nat.le_of_ble_eq_true rfl, Nat.le_of_ble_eq_true rfl⟩ hPM bM.w apt.w (fun H1 locs1 hPH hDH hS hz hPM => ?_)
  have bH := bH.up hz
  have bM := bM.up hz
  refine lv_aload_n hx hb d_law_227 rfl (lv_at hl 1 rfl) ?_
  refine lv_aload_n hx hb d_law_228 rfl (lv_at hl 3 rfl) ?_
  refine lv_iload_n hx hb d_law_229 rfl (lv_at hl 0 rfl) ?_
  refine lv_iconst (v := 1) hx hb d_law_230 (by decide) ?_
  refine lv_iadd hx hb d_law_231 ?_
  refine lv_topi (fun x3 e3 => ?_)
  obtain rfl : x3 = nI ((i) + 1) := e3.trans (nI_add (i) 1)
  refine va_sld hx hb hX hbl hbA hS (vp_in_nI (by omega) (by omega)) d_law_232 ?_
  refine lv_topi (fun x4 e4 => ?_)
  obtain rfl : x4 = xs ((i) + 1) := e4.trans (congrArg xs (nI_clamp (by omega)))
  refine gcV_i2 (o := 0) (As := [.int (xs (i + 1))]) (rest := [.int r]) ⟨hx, hb, hml, hown, hT⟩ gM cwM hKM hPM hDM hS hA hnw henv (Nat.le_of_ble_eq_true rfl) rfl rfl hl.1 rfl (Nat.le_of_ble_eq_true rfl) d_law_233 ⟨Nat.le_of_ble_eq_true rfl, Nat.le_of_ble_eq_true rfl⟩ hPH bH.w apt.sy.w (fun H2 locs2 hPM hDM hS hz hPH => ?_)
  have bH := bH.up hz
  have bM := bM.up hz
  refine lv_icmp_eq (tgt := 422) hx hb d_law_236 (by decide) (fun _ => ?_) (fun c1 => absurd rfl c1)
  exact kk _ _ _ _ _ inv2 hPH hDH hPM hDM bH bM hS hl
set_option maxHeartbeats 4000000 in
set_option maxRecDepth 100000 in
theorem law_g5 {p : Program} {e : Env} {s : State} {m : MethodId} {below : List Frame} {meth : Method} {c : Code} (l : Launch) {b L : Nat} {xs : Nat → Int32} {A : Nat → Prop} {ea ev : Nat → Nat} {dC : Nat → ClassId} {dI : Nat → Nat → Nat} {Q : State → Prop} {adH adM : Nat → Nat} {kmH kmM : Nat → ClassId} {I : Nat → gSt → gSt → Prop} (hx : p.tables.exec = Jvm.exec) (hb : c.code = code) (hml : c.maxLocals = 4) (hown : s.vm.findClass R_law = some m.cls) (hT : ∀ w ∈ lw_good, w.before #[Value.ref b] s = true) (hnw : nw_all s) (henv : env0 ea ev A s s.heap) (hX : va_X b L xs s s.heap) (hbl : b < s.heap.size) (hbA : ¬ A b) (hL : L ≤ 3072) (hA : ∀ q : Nat, s.heap.size ≤ q → A q) (hKH : va_K (dC, dI) cls_all (gT LH kmH) s) (hKM : va_K (dC, dI) cls_all (gT LM kmM) s) (apt : Apt (gO LH + gA LH) (gO LM + gA LM) adH adM) {H : Heap} {locs : List Loc} {ls : Array Slot} {i n : Nat} {M T : gSt} (hi : i + 6 ≤ L) (hPH : va_P (dC, dI) cls_all (gW LH adH kmH T) H) (hDH : va_D A (gW LH adH kmH T)) (hPM : va_P (dC, dI) cls_all (gW LM adM kmM M) H) (hDM : va_D A (gW LM adM kmM M)) (bH : Blw (gO LH + gA LH) adH H.size) (bM : Blw (gO LM + gA LM) adM H.size) (hS : va_S A s.heap H locs) (hl : lv_has ls 4 [(3, .int (nI i)), (2, .ref (adM 0)), (1, .ref (adH 0)), (0, .ref b)]) (two : LTwo l s b dC dI ea ev adH adM kmH kmM I 36 40 2 [.int (xs (i + 1)), .int (xs (i + 2))] n M T) (kk : ∀ (M T : gSt) (H : Heap) (locs : List Loc) (ls : Array Slot), I (n + 1) M T → va_P (dC, dI) cls_all (gW LH adH kmH T) H → va_D A (gW LH adH kmH T) → va_P (dC, dI) cls_all (gW LM adM kmM M) H → va_D A (gW LM adM kmM M) → Blw (gO LH + gA LH) adH H.size → Blw (gO LM + gA LM) adM H.size → va_S A s.heap H locs → lv_has ls 4 [(3, .int (nI i)), (2, .ref (adM 0)), (1, .ref (adH 0)), (0, .ref b)] → W p l e room_1 s m #[Value.ref b] below meth c H locs 246 442276 Q (F0 m 422 ls [])) : W p l e room_1 s m #[Value.ref b] below meth c H locs 246 442276 Q (F0 m 241 ls []) := by
  obtain ⟨r, M', T', ⟨yH, wsH, rmH, byH, mLH, retH, gH, cwH⟩, ⟨yM, wsM, rmM, byM, mLM, retM, gM, cwM⟩, inv2⟩ := two
  refine lv_aload_n hx hb d_law_241 rfl (lv_at hl 2 rfl) ?_
  refine lv_aload_n hx hb d_law_242 rfl (lv_at hl 3 rfl) ?_
  refine lv_iload_n hx hb d_law_243 rfl (lv_at hl 0 rfl) ?_
  refine lv_iconst (v := 1) hx hb d_law_244 (by decide) ?_
  refine lv_iadd hx hb d_law_245 ?_
  refine lv_topi (fun x1 e1 => ?_)
  obtain rfl : x1 = nI ((i) + 1) := e1.trans (nI_add (i) 1)
  refine va_sld hx hb hX hbl hbA hS (vp_in_nI (by omega) (by omega)) d_law_246 ?_
  refine lv_topi (fun x2 e2 => ?_)
  obtain rfl : x2 = xs ((i) + 1) := e2.trans (congrArg xs (nI_clamp (by omega)))
  refine lv_aload_n hx hb d_law_247 rfl (lv_at hl 3 rfl) ?_
  refine lv_iload_n hx hb d_law_248 rfl (lv_at hl 0 rfl) ?_
  refine lv_iconst (v := 2) hx hb d_law_249 (by decide) ?_
  refine lv_iadd hx hb d_law_250 ?_
  refine lv_topi (fun x3 e3 => ?_)
  obtain rfl : x3 = nI ((i) + 2) := e3.trans (nI_add (i) 2)
  refine va_sld hx hb hX hbl hbA hS (vp_in_nI (by omega) (by omega)) d_law_251 ?_
  refine lv_topi (fun x4 e4 => ?_)
  obtain rfl : x4 = xs ((i) + 2) := e4.trans (congrArg xs (nI_clamp (by omega)))
  refine gcV_i2 (o := 0) (As := [.int (xs (i + 1)), .int (xs (i + 2))]) (rest := []) ⟨hx, hb, hml, hown, hT⟩ gH cwH hKH hPH hDH hS hA hnw henv (Nat.le_of_ble_eq_true rfl) rfl rfl hl.1 rfl (Nat.le_of_ble_eq_true rfl) d_law_252 ⟨Nat.le_of_ble_eq_true rfl, Nat.le_of_ble_eq_true rfl⟩ hPM bM.w apt.w (fun H1 locs1 hPH hDH hS hz hPM => ?_)
  have bH := bH.up hz
  have bM := bM.up hz
  refine lv_aload_n hx hb d_law_255 rfl (lv_at hl 1 rfl) ?_
  refine lv_aload_n hx hb d_law_256 rfl (lv_at hl 3 rfl) ?_
  refine lv_iload_n hx hb d_law_257 rfl (lv_at hl 0 rfl) ?_
  refine lv_iconst (v := 1) hx hb d_law_258 (by decide) ?_
  refine lv_iadd hx hb d_law_259 ?_
  refine lv_topi (fun x5 e5 => ?_)
  obtain rfl : x5 = nI ((i) + 1) := e5.trans (nI_add (i) 1)
  refine va_sld hx hb hX hbl hbA hS (vp_in_nI (by omega) (by omega)) d_law_260 ?_
  refine lv_topi (fun x6 e6 => ?_)
  obtain rfl : x6 = xs ((i) + 1) := e6.trans (congrArg xs (nI_clamp (by omega)))
  refine lv_aload_n hx hb d_law_261 rfl (lv_at hl 3 rfl) ?_
  refine lv_iload_n hx hb d_law_262 rfl (lv_at hl 0 rfl) ?_
  refine lv_iconst (v := 2) hx hb d_law_263 (by decide) ?_
  refine lv_iadd hx hb d_law_264 ?_
  refine lv_topi (fun x7 e7 => ?_)
  obtain rfl : x7 = nI ((i) + 2) := e7.trans (nI_add (i) 2)
  refine va_sld hx hb hX hbl hbA hS (vp_in_nI (by omega) (by omega)) d_law_265 ?_
  refine lv_topi (fun x8 e8 => ?_)
  obtain rfl : x8 = xs ((i) + 2) := e8.trans (congrArg xs (nI_clamp (by omega)))
  refine gcV_i2 (o := 0) (As := [.int (xs (i + 1)), .int (xs (i + 2))]) (rest := [.int r]) ⟨hx, hb, hml, hown, hT⟩ gM cwM hKM hPM hDM hS hA hnw henv (Nat.le_of_ble_eq_true rfl) rfl rfl hl.1 rfl (Nat.le_of_ble_eq_true rfl) d_law_266 ⟨Nat.le_of_ble_eq_true rfl, Nat.le_of_ble_eq_true rfl⟩ hPH bH.w apt.sy.w (fun H2 locs2 hPM hDM hS hz hPH => ?_)
  have bH := bH.up hz
  have bM := bM.up hz
  refine lv_icmp_eq (tgt := 422) hx hb d_law_269 (by decide) (fun _ => ?_) (fun c1 => absurd rfl c1)
  exact kk _ _ _ _ _ inv2 hPH hDH hPM hDM bH bM hS hl
set_option maxHeartbeats 4000000 in
set_option maxRecDepth 100000 in
theorem law_g6 {p : Program} {e : Env} {s : State} {m : MethodId} {below : List Frame} {meth : Method} {c : Code} (l : Launch) {b L : Nat} {xs : Nat → Int32} {A : Nat → Prop} {ea ev : Nat → Nat} {dC : Nat → ClassId} {dI : Nat → Nat → Nat} {Q : State → Prop} {adH adM : Nat → Nat} {kmH kmM : Nat → ClassId} {I : Nat → gSt → gSt → Prop} (hx : p.tables.exec = Jvm.exec) (hb : c.code = code) (hml : c.maxLocals = 4) (hown : s.vm.findClass R_law = some m.cls) (hT : ∀ w ∈ lw_good, w.before #[Value.ref b] s = true) (hnw : nw_all s) (henv : env0 ea ev A s s.heap) (hX : va_X b L xs s s.heap) (hbl : b < s.heap.size) (hbA : ¬ A b) (hL : L ≤ 3072) (hA : ∀ q : Nat, s.heap.size ≤ q → A q) (hKH : va_K (dC, dI) cls_all (gT LH kmH) s) (hKM : va_K (dC, dI) cls_all (gT LM kmM) s) (apt : Apt (gO LH + gA LH) (gO LM + gA LM) adH adM) {H : Heap} {locs : List Loc} {ls : Array Slot} {i n : Nat} {M T : gSt} (hi : i + 6 ≤ L) (hPH : va_P (dC, dI) cls_all (gW LH adH kmH T) H) (hDH : va_D A (gW LH adH kmH T)) (hPM : va_P (dC, dI) cls_all (gW LM adM kmM M) H) (hDM : va_D A (gW LM adM kmM M)) (bH : Blw (gO LH + gA LH) adH H.size) (bM : Blw (gO LM + gA LM) adM H.size) (hS : va_S A s.heap H locs) (hl : lv_has ls 4 [(3, .int (nI i)), (2, .ref (adM 0)), (1, .ref (adH 0)), (0, .ref b)]) (two : LTwo l s b dC dI ea ev adH adM kmH kmM I 41 44 1 [.int (xs (i + 1))] n M T) (kk : ∀ (M T : gSt) (H : Heap) (locs : List Loc) (ls : Array Slot), I (n + 1) M T → va_P (dC, dI) cls_all (gW LH adH kmH T) H → va_D A (gW LH adH kmH T) → va_P (dC, dI) cls_all (gW LM adM kmM M) H → va_D A (gW LM adM kmM M) → Blw (gO LH + gA LH) adH H.size → Blw (gO LM + gA LM) adM H.size → va_S A s.heap H locs → lv_has ls 4 [(3, .int (nI i)), (2, .ref (adM 0)), (1, .ref (adH 0)), (0, .ref b)] → W p l e room_1 s m #[Value.ref b] below meth c H locs 246 442276 Q (F0 m 422 ls [])) : W p l e room_1 s m #[Value.ref b] below meth c H locs 246 442276 Q (F0 m 274 ls []) := by
  obtain ⟨r, M', T', ⟨yH, wsH, rmH, byH, mLH, retH, gH, cwH⟩, ⟨yM, wsM, rmM, byM, mLM, retM, gM, cwM⟩, inv2⟩ := two
  refine lv_aload_n hx hb d_law_274 rfl (lv_at hl 2 rfl) ?_
  refine lv_aload_n hx hb d_law_275 rfl (lv_at hl 3 rfl) ?_
  refine lv_iload_n hx hb d_law_276 rfl (lv_at hl 0 rfl) ?_
  refine lv_iconst (v := 1) hx hb d_law_277 (by decide) ?_
  refine lv_iadd hx hb d_law_278 ?_
  refine lv_topi (fun x1 e1 => ?_)
  obtain rfl : x1 = nI ((i) + 1) := e1.trans (nI_add (i) 1)
  refine va_sld hx hb hX hbl hbA hS (vp_in_nI (by omega) (by omega)) d_law_279 ?_
  refine lv_topi (fun x2 e2 => ?_)
  obtain rfl : x2 = xs ((i) + 1) := e2.trans (congrArg xs (nI_clamp (by omega)))
  refine gcV_i2 (o := 0) (As := [.int (xs (i + 1))]) (rest := []) ⟨hx, hb, hml, hown, hT⟩ gH cwH hKH hPH hDH hS hA hnw henv (Nat.le_of_ble_eq_true rfl) rfl rfl hl.1 rfl (Nat.le_of_ble_eq_true rfl) d_law_280 ⟨Nat.le_of_ble_eq_true rfl, Nat.le_of_ble_eq_true rfl⟩ hPM bM.w apt.w (fun H1 locs1 hPH hDH hS hz hPM => ?_)
  have bH := bH.up hz
  have bM := bM.up hz
  refine lv_aload_n hx hb d_law_283 rfl (lv_at hl 1 rfl) ?_
  refine lv_aload_n hx hb d_law_284 rfl (lv_at hl 3 rfl) ?_
  refine lv_iload_n hx hb d_law_285 rfl (lv_at hl 0 rfl) ?_
  refine lv_iconst (v := 1) hx hb d_law_286 (by decide) ?_
  refine lv_iadd hx hb d_law_287 ?_
  refine lv_topi (fun x3 e3 => ?_)
  obtain rfl : x3 = nI ((i) + 1) := e3.trans (nI_add (i) 1)
  refine va_sld hx hb hX hbl hbA hS (vp_in_nI (by omega) (by omega)) d_law_288 ?_
  refine lv_topi (fun x4 e4 => ?_)
  obtain rfl : x4 = xs ((i) + 1) := e4.trans (congrArg xs (nI_clamp (by omega)))
  refine gcV_i2 (o := 0) (As := [.int (xs (i + 1))]) (rest := [.int r]) ⟨hx, hb, hml, hown, hT⟩ gM cwM hKM hPM hDM hS hA hnw henv (Nat.le_of_ble_eq_true rfl) rfl rfl hl.1 rfl (Nat.le_of_ble_eq_true rfl) d_law_289 ⟨Nat.le_of_ble_eq_true rfl, Nat.le_of_ble_eq_true rfl⟩ hPH bH.w apt.sy.w (fun H2 locs2 hPM hDM hS hz hPH => ?_)
  have bH := bH.up hz
  have bM := bM.up hz
  refine lv_icmp_eq (tgt := 422) hx hb d_law_292 (by decide) (fun _ => ?_) (fun c1 => absurd rfl c1)
  exact kk _ _ _ _ _ inv2 hPH hDH hPM hDM bH bM hS hl
set_option maxHeartbeats 4000000 in
set_option maxRecDepth 100000 in
theorem law_g7 {p : Program} {e : Env} {s : State} {m : MethodId} {below : List Frame} {meth : Method} {c : Code} (l : Launch) {b L : Nat} {xs : Nat → Int32} {A : Nat → Prop} {ea ev : Nat → Nat} {dC : Nat → ClassId} {dI : Nat → Nat → Nat} {Q : State → Prop} {adH adM : Nat → Nat} {kmH kmM : Nat → ClassId} {I : Nat → gSt → gSt → Prop} (hx : p.tables.exec = Jvm.exec) (hb : c.code = code) (hml : c.maxLocals = 4) (hown : s.vm.findClass R_law = some m.cls) (hT : ∀ w ∈ lw_good, w.before #[Value.ref b] s = true) (hnw : nw_all s) (henv : env0 ea ev A s s.heap) (hX : va_X b L xs s s.heap) (hbl : b < s.heap.size) (hbA : ¬ A b) (hL : L ≤ 3072) (hA : ∀ q : Nat, s.heap.size ≤ q → A q) (hKH : va_K (dC, dI) cls_all (gT LH kmH) s) (hKM : va_K (dC, dI) cls_all (gT LM kmM) s) (apt : Apt (gO LH + gA LH) (gO LM + gA LM) adH adM) {H : Heap} {locs : List Loc} {ls : Array Slot} {i n : Nat} {M T : gSt} (hi : i + 6 ≤ L) (hPH : va_P (dC, dI) cls_all (gW LH adH kmH T) H) (hDH : va_D A (gW LH adH kmH T)) (hPM : va_P (dC, dI) cls_all (gW LM adM kmM M) H) (hDM : va_D A (gW LM adM kmM M)) (bH : Blw (gO LH + gA LH) adH H.size) (bM : Blw (gO LM + gA LM) adM H.size) (hS : va_S A s.heap H locs) (hl : lv_has ls 4 [(3, .int (nI i)), (2, .ref (adM 0)), (1, .ref (adH 0)), (0, .ref b)]) (two : LTwo l s b dC dI ea ev adH adM kmH kmM I 45 48 1 [.int (xs (i + 1))] n M T) (kk : ∀ (M T : gSt) (H : Heap) (locs : List Loc) (ls : Array Slot), I (n + 1) M T → va_P (dC, dI) cls_all (gW LH adH kmH T) H → va_D A (gW LH adH kmH T) → va_P (dC, dI) cls_all (gW LM adM kmM M) H → va_D A (gW LM adM kmM M) → Blw (gO LH + gA LH) adH H.size → Blw (gO LM + gA LM) adM H.size → va_S A s.heap H locs → lv_has ls 4 [(3, .int (nI i)), (2, .ref (adM 0)), (1, .ref (adH 0)), (0, .ref b)] → W p l e room_1 s m #[Value.ref b] below meth c H locs 246 442276 Q (F0 m 422 ls [])) : W p l e room_1 s m #[Value.ref b] below meth c H locs 246 442276 Q (F0 m 297 ls []) := by
  obtain ⟨r, M', T', ⟨yH, wsH, rmH, byH, mLH, retH, gH, cwH⟩, ⟨yM, wsM, rmM, byM, mLM, retM, gM, cwM⟩, inv2⟩ := two
  refine lv_aload_n hx hb d_law_297 rfl (lv_at hl 2 rfl) ?_
  refine lv_aload_n hx hb d_law_298 rfl (lv_at hl 3 rfl) ?_
  refine lv_iload_n hx hb d_law_299 rfl (lv_at hl 0 rfl) ?_
  refine lv_iconst (v := 1) hx hb d_law_300 (by decide) ?_
  refine lv_iadd hx hb d_law_301 ?_
  refine lv_topi (fun x1 e1 => ?_)
  obtain rfl : x1 = nI ((i) + 1) := e1.trans (nI_add (i) 1)
  refine va_sld hx hb hX hbl hbA hS (vp_in_nI (by omega) (by omega)) d_law_302 ?_
  refine lv_topi (fun x2 e2 => ?_)
  obtain rfl : x2 = xs ((i) + 1) := e2.trans (congrArg xs (nI_clamp (by omega)))
  refine gcV_i2 (o := 0) (As := [.int (xs (i + 1))]) (rest := []) ⟨hx, hb, hml, hown, hT⟩ gH cwH hKH hPH hDH hS hA hnw henv (Nat.le_of_ble_eq_true rfl) rfl rfl hl.1 rfl (Nat.le_of_ble_eq_true rfl) d_law_303 ⟨Nat.le_of_ble_eq_true rfl, Nat.le_of_ble_eq_true rfl⟩ hPM bM.w apt.w (fun H1 locs1 hPH hDH hS hz hPM => ?_)
  have bH := bH.up hz
  have bM := bM.up hz
  refine lv_aload_n hx hb d_law_306 rfl (lv_at hl 1 rfl) ?_
  refine lv_aload_n hx hb d_law_307 rfl (lv_at hl 3 rfl) ?_
  refine lv_iload_n hx hb d_law_308 rfl (lv_at hl 0 rfl) ?_
  refine lv_iconst (v := 1) hx hb d_law_309 (by decide) ?_
  refine lv_iadd hx hb d_law_310 ?_
  refine lv_topi (fun x3 e3 => ?_)
  obtain rfl : x3 = nI ((i) + 1) := e3.trans (nI_add (i) 1)
  refine va_sld hx hb hX hbl hbA hS (vp_in_nI (by omega) (by omega)) d_law_311 ?_
  refine lv_topi (fun x4 e4 => ?_)
  obtain rfl : x4 = xs ((i) + 1) := e4.trans (congrArg xs (nI_clamp (by omega)))
  refine gcV_i2 (o := 0) (As := [.int (xs (i + 1))]) (rest := [.int r]) ⟨hx, hb, hml, hown, hT⟩ gM cwM hKM hPM hDM hS hA hnw henv (Nat.le_of_ble_eq_true rfl) rfl rfl hl.1 rfl (Nat.le_of_ble_eq_true rfl) d_law_312 ⟨Nat.le_of_ble_eq_true rfl, Nat.le_of_ble_eq_true rfl⟩ hPH bH.w apt.sy.w (fun H2 locs2 hPM hDM hS hz hPH => ?_)
  have bH := bH.up hz
  have bM := bM.up hz
  refine lv_icmp_eq (tgt := 422) hx hb d_law_315 (by decide) (fun _ => ?_) (fun c1 => absurd rfl c1)
  exact kk _ _ _ _ _ inv2 hPH hDH hPM hDM bH bM hS hl
set_option maxHeartbeats 4000000 in
set_option maxRecDepth 100000 in
theorem law_g8 {p : Program} {e : Env} {s : State} {m : MethodId} {below : List Frame} {meth : Method} {c : Code} (l : Launch) {b L : Nat} {xs : Nat → Int32} {A : Nat → Prop} {ea ev : Nat → Nat} {dC : Nat → ClassId} {dI : Nat → Nat → Nat} {Q : State → Prop} {adH adM : Nat → Nat} {kmH kmM : Nat → ClassId} {I : Nat → gSt → gSt → Prop} (hx : p.tables.exec = Jvm.exec) (hb : c.code = code) (hml : c.maxLocals = 4) (hown : s.vm.findClass R_law = some m.cls) (hT : ∀ w ∈ lw_good, w.before #[Value.ref b] s = true) (hnw : nw_all s) (henv : env0 ea ev A s s.heap) (hX : va_X b L xs s s.heap) (hbl : b < s.heap.size) (hbA : ¬ A b) (hL : L ≤ 3072) (hA : ∀ q : Nat, s.heap.size ≤ q → A q) (hKH : va_K (dC, dI) cls_all (gT LH kmH) s) (hKM : va_K (dC, dI) cls_all (gT LM kmM) s) (apt : Apt (gO LH + gA LH) (gO LM + gA LM) adH adM) {H : Heap} {locs : List Loc} {ls : Array Slot} {i n : Nat} {M T : gSt} (hi : i + 6 ≤ L) (hPH : va_P (dC, dI) cls_all (gW LH adH kmH T) H) (hDH : va_D A (gW LH adH kmH T)) (hPM : va_P (dC, dI) cls_all (gW LM adM kmM M) H) (hDM : va_D A (gW LM adM kmM M)) (bH : Blw (gO LH + gA LH) adH H.size) (bM : Blw (gO LM + gA LM) adM H.size) (hS : va_S A s.heap H locs) (hl : lv_has ls 4 [(3, .int (nI i)), (2, .ref (adM 0)), (1, .ref (adH 0)), (0, .ref b)]) (two : LTwo l s b dC dI ea ev adH adM kmH kmM I 49 52 1 [.int (xs (i + 1))] n M T) (kk : ∀ (M T : gSt) (H : Heap) (locs : List Loc) (ls : Array Slot), I (n + 1) M T → va_P (dC, dI) cls_all (gW LH adH kmH T) H → va_D A (gW LH adH kmH T) → va_P (dC, dI) cls_all (gW LM adM kmM M) H → va_D A (gW LM adM kmM M) → Blw (gO LH + gA LH) adH H.size → Blw (gO LM + gA LM) adM H.size → va_S A s.heap H locs → lv_has ls 4 [(3, .int (nI i)), (2, .ref (adM 0)), (1, .ref (adH 0)), (0, .ref b)] → W p l e room_1 s m #[Value.ref b] below meth c H locs 246 442276 Q (F0 m 422 ls [])) : W p l e room_1 s m #[Value.ref b] below meth c H locs 246 442276 Q (F0 m 320 ls []) := by
  obtain ⟨r, M', T', ⟨yH, wsH, rmH, byH, mLH, retH, gH, cwH⟩, ⟨yM, wsM, rmM, byM, mLM, retM, gM, cwM⟩, inv2⟩ := two
  refine lv_aload_n hx hb d_law_320 rfl (lv_at hl 2 rfl) ?_
  refine lv_aload_n hx hb d_law_321 rfl (lv_at hl 3 rfl) ?_
  refine lv_iload_n hx hb d_law_322 rfl (lv_at hl 0 rfl) ?_
  refine lv_iconst (v := 1) hx hb d_law_323 (by decide) ?_
  refine lv_iadd hx hb d_law_324 ?_
  refine lv_topi (fun x1 e1 => ?_)
  obtain rfl : x1 = nI ((i) + 1) := e1.trans (nI_add (i) 1)
  refine va_sld hx hb hX hbl hbA hS (vp_in_nI (by omega) (by omega)) d_law_325 ?_
  refine lv_topi (fun x2 e2 => ?_)
  obtain rfl : x2 = xs ((i) + 1) := e2.trans (congrArg xs (nI_clamp (by omega)))
  refine gcV_i2 (o := 0) (As := [.int (xs (i + 1))]) (rest := []) ⟨hx, hb, hml, hown, hT⟩ gH cwH hKH hPH hDH hS hA hnw henv (Nat.le_of_ble_eq_true rfl) rfl rfl hl.1 rfl (Nat.le_of_ble_eq_true rfl) d_law_326 ⟨Nat.le_of_ble_eq_true rfl, Nat.le_of_ble_eq_true rfl⟩ hPM bM.w apt.w (fun H1 locs1 hPH hDH hS hz hPM => ?_)
  have bH := bH.up hz
  have bM := bM.up hz
  refine lv_aload_n hx hb d_law_329 rfl (lv_at hl 1 rfl) ?_
  refine lv_aload_n hx hb d_law_330 rfl (lv_at hl 3 rfl) ?_
  refine lv_iload_n hx hb d_law_331 rfl (lv_at hl 0 rfl) ?_
  refine lv_iconst (v := 1) hx hb d_law_332 (by decide) ?_
  refine lv_iadd hx hb d_law_333 ?_
  refine lv_topi (fun x3 e3 => ?_)
  obtain rfl : x3 = nI ((i) + 1) := e3.trans (nI_add (i) 1)
  refine va_sld hx hb hX hbl hbA hS (vp_in_nI (by omega) (by omega)) d_law_334 ?_
  refine lv_topi (fun x4 e4 => ?_)
  obtain rfl : x4 = xs ((i) + 1) := e4.trans (congrArg xs (nI_clamp (by omega)))
  refine gcV_i2 (o := 0) (As := [.int (xs (i + 1))]) (rest := [.int r]) ⟨hx, hb, hml, hown, hT⟩ gM cwM hKM hPM hDM hS hA hnw henv (Nat.le_of_ble_eq_true rfl) rfl rfl hl.1 rfl (Nat.le_of_ble_eq_true rfl) d_law_335 ⟨Nat.le_of_ble_eq_true rfl, Nat.le_of_ble_eq_true rfl⟩ hPH bH.w apt.sy.w (fun H2 locs2 hPM hDM hS hz hPH => ?_)
  have bH := bH.up hz
  have bM := bM.up hz
  refine lv_icmp_eq (tgt := 422) hx hb d_law_338 (by decide) (fun _ => ?_) (fun c1 => absurd rfl c1)
  exact kk _ _ _ _ _ inv2 hPH hDH hPM hDM bH bM hS hl
set_option maxHeartbeats 4000000 in
set_option maxRecDepth 100000 in
theorem law_g9 {p : Program} {e : Env} {s : State} {m : MethodId} {below : List Frame} {meth : Method} {c : Code} (l : Launch) {b L : Nat} {xs : Nat → Int32} {A : Nat → Prop} {ea ev : Nat → Nat} {dC : Nat → ClassId} {dI : Nat → Nat → Nat} {Q : State → Prop} {adH adM : Nat → Nat} {kmH kmM : Nat → ClassId} {I : Nat → gSt → gSt → Prop} (hx : p.tables.exec = Jvm.exec) (hb : c.code = code) (hml : c.maxLocals = 4) (hown : s.vm.findClass R_law = some m.cls) (hT : ∀ w ∈ lw_good, w.before #[Value.ref b] s = true) (hnw : nw_all s) (henv : env0 ea ev A s s.heap) (hX : va_X b L xs s s.heap) (hbl : b < s.heap.size) (hbA : ¬ A b) (hL : L ≤ 3072) (hA : ∀ q : Nat, s.heap.size ≤ q → A q) (hKH : va_K (dC, dI) cls_all (gT LH kmH) s) (hKM : va_K (dC, dI) cls_all (gT LM kmM) s) (apt : Apt (gO LH + gA LH) (gO LM + gA LM) adH adM) {H : Heap} {locs : List Loc} {ls : Array Slot} {i n : Nat} {M T : gSt} (hi : i + 6 ≤ L) (hPH : va_P (dC, dI) cls_all (gW LH adH kmH T) H) (hDH : va_D A (gW LH adH kmH T)) (hPM : va_P (dC, dI) cls_all (gW LM adM kmM M) H) (hDM : va_D A (gW LM adM kmM M)) (bH : Blw (gO LH + gA LH) adH H.size) (bM : Blw (gO LM + gA LM) adM H.size) (hS : va_S A s.heap H locs) (hl : lv_has ls 4 [(3, .int (nI i)), (2, .ref (adM 0)), (1, .ref (adH 0)), (0, .ref b)]) (two : LTwo l s b dC dI ea ev adH adM kmH kmM I 53 56 1 [.int (xs (i + 1))] n M T) (kk : ∀ (M T : gSt) (H : Heap) (locs : List Loc) (ls : Array Slot), I (n + 1) M T → va_P (dC, dI) cls_all (gW LH adH kmH T) H → va_D A (gW LH adH kmH T) → va_P (dC, dI) cls_all (gW LM adM kmM M) H → va_D A (gW LM adM kmM M) → Blw (gO LH + gA LH) adH H.size → Blw (gO LM + gA LM) adM H.size → va_S A s.heap H locs → lv_has ls 4 [(3, .int (nI i)), (2, .ref (adM 0)), (1, .ref (adH 0)), (0, .ref b)] → W p l e room_1 s m #[Value.ref b] below meth c H locs 246 442276 Q (F0 m 422 ls [])) : W p l e room_1 s m #[Value.ref b] below meth c H locs 246 442276 Q (F0 m 343 ls []) := by
  obtain ⟨r, M', T', ⟨yH, wsH, rmH, byH, mLH, retH, gH, cwH⟩, ⟨yM, wsM, rmM, byM, mLM, retM, gM, cwM⟩, inv2⟩ := two
  refine lv_aload_n hx hb d_law_343 rfl (lv_at hl 2 rfl) ?_
  refine lv_aload_n hx hb d_law_344 rfl (lv_at hl 3 rfl) ?_
  refine lv_iload_n hx hb d_law_345 rfl (lv_at hl 0 rfl) ?_
  refine lv_iconst (v := 1) hx hb d_law_346 (by decide) ?_
  refine lv_iadd hx hb d_law_347 ?_
  refine lv_topi (fun x1 e1 => ?_)
  obtain rfl : x1 = nI ((i) + 1) := e1.trans (nI_add (i) 1)
  refine va_sld hx hb hX hbl hbA hS (vp_in_nI (by omega) (by omega)) d_law_348 ?_
  refine lv_topi (fun x2 e2 => ?_)
  obtain rfl : x2 = xs ((i) + 1) := e2.trans (congrArg xs (nI_clamp (by omega)))
  refine gcV_i2 (o := 0) (As := [.int (xs (i + 1))]) (rest := []) ⟨hx, hb, hml, hown, hT⟩ gH cwH hKH hPH hDH hS hA hnw henv (Nat.le_of_ble_eq_true rfl) rfl rfl hl.1 rfl (Nat.le_of_ble_eq_true rfl) d_law_349 ⟨Nat.le_of_ble_eq_true rfl, Nat.le_of_ble_eq_true rfl⟩ hPM bM.w apt.w (fun H1 locs1 hPH hDH hS hz hPM => ?_)
  have bH := bH.up hz
  have bM := bM.up hz
  refine lv_aload_n hx hb d_law_352 rfl (lv_at hl 1 rfl) ?_
  refine lv_aload_n hx hb d_law_353 rfl (lv_at hl 3 rfl) ?_
  refine lv_iload_n hx hb d_law_354 rfl (lv_at hl 0 rfl) ?_
  refine lv_iconst (v := 1) hx hb d_law_355 (by decide) ?_
  refine lv_iadd hx hb d_law_356 ?_
  refine lv_topi (fun x3 e3 => ?_)
  obtain rfl : x3 = nI ((i) + 1) := e3.trans (nI_add (i) 1)
  refine va_sld hx hb hX hbl hbA hS (vp_in_nI (by omega) (by omega)) d_law_357 ?_
  refine lv_topi (fun x4 e4 => ?_)
  obtain rfl : x4 = xs ((i) + 1) := e4.trans (congrArg xs (nI_clamp (by omega)))
  refine gcV_i2 (o := 0) (As := [.int (xs (i + 1))]) (rest := [.int r]) ⟨hx, hb, hml, hown, hT⟩ gM cwM hKM hPM hDM hS hA hnw henv (Nat.le_of_ble_eq_true rfl) rfl rfl hl.1 rfl (Nat.le_of_ble_eq_true rfl) d_law_358 ⟨Nat.le_of_ble_eq_true rfl, Nat.le_of_ble_eq_true rfl⟩ hPH bH.w apt.sy.w (fun H2 locs2 hPM hDM hS hz hPH => ?_)
  have bH := bH.up hz
  have bM := bM.up hz
  refine lv_icmp_eq (tgt := 422) hx hb d_law_361 (by decide) (fun _ => ?_) (fun c1 => absurd rfl c1)
  exact kk _ _ _ _ _ inv2 hPH hDH hPM hDM bH bM hS hl
set_option maxHeartbeats 4000000 in
set_option maxRecDepth 100000 in
theorem law_g10 {p : Program} {e : Env} {s : State} {m : MethodId} {below : List Frame} {meth : Method} {c : Code} (l : Launch) {b L : Nat} {xs : Nat → Int32} {A : Nat → Prop} {ea ev : Nat → Nat} {dC : Nat → ClassId} {dI : Nat → Nat → Nat} {Q : State → Prop} {adH adM : Nat → Nat} {kmH kmM : Nat → ClassId} {I : Nat → gSt → gSt → Prop} (hx : p.tables.exec = Jvm.exec) (hb : c.code = code) (hml : c.maxLocals = 4) (hown : s.vm.findClass R_law = some m.cls) (hT : ∀ w ∈ lw_good, w.before #[Value.ref b] s = true) (hnw : nw_all s) (henv : env0 ea ev A s s.heap) (hX : va_X b L xs s s.heap) (hbl : b < s.heap.size) (hbA : ¬ A b) (hL : L ≤ 3072) (hA : ∀ q : Nat, s.heap.size ≤ q → A q) (hKH : va_K (dC, dI) cls_all (gT LH kmH) s) (hKM : va_K (dC, dI) cls_all (gT LM kmM) s) (apt : Apt (gO LH + gA LH) (gO LM + gA LM) adH adM) {H : Heap} {locs : List Loc} {ls : Array Slot} {i n : Nat} {M T : gSt} (hi : i + 6 ≤ L) (hPH : va_P (dC, dI) cls_all (gW LH adH kmH T) H) (hDH : va_D A (gW LH adH kmH T)) (hPM : va_P (dC, dI) cls_all (gW LM adM kmM M) H) (hDM : va_D A (gW LM adM kmM M)) (bH : Blw (gO LH + gA LH) adH H.size) (bM : Blw (gO LM + gA LM) adM H.size) (hS : va_S A s.heap H locs) (hl : lv_has ls 4 [(3, .int (nI i)), (2, .ref (adM 0)), (1, .ref (adH 0)), (0, .ref b)]) (two : LTwo l s b dC dI ea ev adH adM kmH kmM I 57 61 2 [.int (xs (i + 1)), .int (xs (i + 2))] n M T) (kk : ∀ (M T : gSt) (H : Heap) (locs : List Loc) (ls : Array Slot), I (n + 1) M T → va_P (dC, dI) cls_all (gW LH adH kmH T) H → va_D A (gW LH adH kmH T) → va_P (dC, dI) cls_all (gW LM adM kmM M) H → va_D A (gW LM adM kmM M) → Blw (gO LH + gA LH) adH H.size → Blw (gO LM + gA LM) adM H.size → va_S A s.heap H locs → lv_has ls 4 [(3, .int (nI i)), (2, .ref (adM 0)), (1, .ref (adH 0)), (0, .ref b)] → W p l e room_1 s m #[Value.ref b] below meth c H locs 246 442276 Q (F0 m 422 ls [])) : W p l e room_1 s m #[Value.ref b] below meth c H locs 246 442276 Q (F0 m 366 ls []) := by
  obtain ⟨r, M', T', ⟨yH, wsH, rmH, byH, mLH, retH, gH, cwH⟩, ⟨yM, wsM, rmM, byM, mLM, retM, gM, cwM⟩, inv2⟩ := two
  refine lv_aload_n hx hb d_law_366 rfl (lv_at hl 2 rfl) ?_
  refine lv_aload_n hx hb d_law_367 rfl (lv_at hl 3 rfl) ?_
  refine lv_iload_n hx hb d_law_368 rfl (lv_at hl 0 rfl) ?_
  refine lv_iconst (v := 1) hx hb d_law_369 (by decide) ?_
  refine lv_iadd hx hb d_law_370 ?_
  refine lv_topi (fun x1 e1 => ?_)
  obtain rfl : x1 = nI ((i) + 1) := e1.trans (nI_add (i) 1)
  refine va_sld hx hb hX hbl hbA hS (vp_in_nI (by omega) (by omega)) d_law_371 ?_
  refine lv_topi (fun x2 e2 => ?_)
  obtain rfl : x2 = xs ((i) + 1) := e2.trans (congrArg xs (nI_clamp (by omega)))
  refine lv_aload_n hx hb d_law_372 rfl (lv_at hl 3 rfl) ?_
  refine lv_iload_n hx hb d_law_373 rfl (lv_at hl 0 rfl) ?_
  refine lv_iconst (v := 2) hx hb d_law_374 (by decide) ?_
  refine lv_iadd hx hb d_law_375 ?_
  refine lv_topi (fun x3 e3 => ?_)
  obtain rfl : x3 = nI ((i) + 2) := e3.trans (nI_add (i) 2)
  refine va_sld hx hb hX hbl hbA hS (vp_in_nI (by omega) (by omega)) d_law_376 ?_
  refine lv_topi (fun x4 e4 => ?_)
  obtain rfl : x4 = xs ((i) + 2) := e4.trans (congrArg xs (nI_clamp (by omega)))
  refine gcV_i2 (o := 0) (As := [.int (xs (i + 1)), .int (xs (i + 2))]) (rest := []) ⟨hx, hb, hml, hown, hT⟩ gH cwH hKH hPH hDH hS hA hnw henv (Nat.le_of_ble_eq_true rfl) rfl rfl hl.1 rfl (Nat.le_of_ble_eq_true rfl) d_law_377 ⟨Nat.le_of_ble_eq_true rfl, Nat.le_of_ble_eq_true rfl⟩ hPM bM.w apt.w (fun H1 locs1 hPH hDH hS hz hPM => ?_)
  have bH := bH.up hz
  have bM := bM.up hz
  refine lv_aload_n hx hb d_law_380 rfl (lv_at hl 1 rfl) ?_
  refine lv_aload_n hx hb d_law_381 rfl (lv_at hl 3 rfl) ?_
  refine lv_iload_n hx hb d_law_382 rfl (lv_at hl 0 rfl) ?_
  refine lv_iconst (v := 1) hx hb d_law_383 (by decide) ?_
  refine lv_iadd hx hb d_law_384 ?_
  refine lv_topi (fun x5 e5 => ?_)
  obtain rfl : x5 = nI ((i) + 1) := e5.trans (nI_add (i) 1)
  refine va_sld hx hb hX hbl hbA hS (vp_in_nI (by omega) (by omega)) d_law_385 ?_
  refine lv_topi (fun x6 e6 => ?_)
  obtain rfl : x6 = xs ((i) + 1) := e6.trans (congrArg xs (nI_clamp (by omega)))
  refine lv_aload_n hx hb d_law_386 rfl (lv_at hl 3 rfl) ?_
  refine lv_iload_n hx hb d_law_387 rfl (lv_at hl 0 rfl) ?_
  refine lv_iconst (v := 2) hx hb d_law_388 (by decide) ?_
  refine lv_iadd hx hb d_law_389 ?_
  refine lv_topi (fun x7 e7 => ?_)
  obtain rfl : x7 = nI ((i) + 2) := e7.trans (nI_add (i) 2)
  refine va_sld hx hb hX hbl hbA hS (vp_in_nI (by omega) (by omega)) d_law_390 ?_
  refine lv_topi (fun x8 e8 => ?_)
  obtain rfl : x8 = xs ((i) + 2) := e8.trans (congrArg xs (nI_clamp (by omega)))
  refine gcV_i2 (o := 0) (As := [.int (xs (i + 1)), .int (xs (i + 2))]) (rest := [.int r]) ⟨hx, hb, hml, hown, hT⟩ gM cwM hKM hPM hDM hS hA hnw henv (Nat.le_of_ble_eq_true rfl) rfl rfl hl.1 rfl (Nat.le_of_ble_eq_true rfl) d_law_391 ⟨Nat.le_of_ble_eq_true rfl, Nat.le_of_ble_eq_true rfl⟩ hPH bH.w apt.sy.w (fun H2 locs2 hPM hDM hS hz hPH => ?_)
  have bH := bH.up hz
  have bM := bM.up hz
  refine lv_icmp_eq (tgt := 422) hx hb d_law_394 (by decide) (fun _ => ?_) (fun c1 => absurd rfl c1)
  exact kk _ _ _ _ _ inv2 hPH hDH hPM hDM bH bM hS hl
set_option maxHeartbeats 4000000 in
set_option maxRecDepth 100000 in
theorem law_g11 {p : Program} {e : Env} {s : State} {m : MethodId} {below : List Frame} {meth : Method} {c : Code} (l : Launch) {b L : Nat} {xs : Nat → Int32} {A : Nat → Prop} {ea ev : Nat → Nat} {dC : Nat → ClassId} {dI : Nat → Nat → Nat} {Q : State → Prop} {adH adM : Nat → Nat} {kmH kmM : Nat → ClassId} {I : Nat → gSt → gSt → Prop} (hx : p.tables.exec = Jvm.exec) (hb : c.code = code) (hml : c.maxLocals = 4) (hown : s.vm.findClass R_law = some m.cls) (hT : ∀ w ∈ lw_good, w.before #[Value.ref b] s = true) (hnw : nw_all s) (henv : env0 ea ev A s s.heap) (hX : va_X b L xs s s.heap) (hbl : b < s.heap.size) (hbA : ¬ A b) (hL : L ≤ 3072) (hA : ∀ q : Nat, s.heap.size ≤ q → A q) (hKH : va_K (dC, dI) cls_all (gT LH kmH) s) (hKM : va_K (dC, dI) cls_all (gT LM kmM) s) (apt : Apt (gO LH + gA LH) (gO LM + gA LM) adH adM) {H : Heap} {locs : List Loc} {ls : Array Slot} {i n : Nat} {M T : gSt} (hi : i + 6 ≤ L) (hPH : va_P (dC, dI) cls_all (gW LH adH kmH T) H) (hDH : va_D A (gW LH adH kmH T)) (hPM : va_P (dC, dI) cls_all (gW LM adM kmM M) H) (hDM : va_D A (gW LM adM kmM M)) (bH : Blw (gO LH + gA LH) adH H.size) (bM : Blw (gO LM + gA LM) adM H.size) (hS : va_S A s.heap H locs) (hl : lv_has ls 4 [(3, .int (nI i)), (2, .ref (adM 0)), (1, .ref (adH 0)), (0, .ref b)]) (two : LTwo l s b dC dI ea ev adH adM kmH kmM I 62 65 1 [.int (xs (i + 1))] n M T) (kk : ∀ (M T : gSt) (H : Heap) (locs : List Loc) (ls : Array Slot), I (n + 1) M T → va_P (dC, dI) cls_all (gW LH adH kmH T) H → va_D A (gW LH adH kmH T) → va_P (dC, dI) cls_all (gW LM adM kmM M) H → va_D A (gW LM adM kmM M) → Blw (gO LH + gA LH) adH H.size → Blw (gO LM + gA LM) adM H.size → va_S A s.heap H locs → lv_has ls 4 [(3, .int (nI i)), (2, .ref (adM 0)), (1, .ref (adH 0)), (0, .ref b)] → W p l e room_1 s m #[Value.ref b] below meth c H locs 246 442276 Q (F0 m 422 ls [])) : W p l e room_1 s m #[Value.ref b] below meth c H locs 246 442276 Q (F0 m 399 ls []) := by
  obtain ⟨r, M', T', ⟨yH, wsH, rmH, byH, mLH, retH, gH, cwH⟩, ⟨yM, wsM, rmM, byM, mLM, retM, gM, cwM⟩, inv2⟩ := two
  refine lv_aload_n hx hb d_law_399 rfl (lv_at hl 2 rfl) ?_
  refine lv_aload_n hx hb d_law_400 rfl (lv_at hl 3 rfl) ?_
  refine lv_iload_n hx hb d_law_401 rfl (lv_at hl 0 rfl) ?_
  refine lv_iconst (v := 1) hx hb d_law_402 (by decide) ?_
  refine lv_iadd hx hb d_law_403 ?_
  refine lv_topi (fun x1 e1 => ?_)
  obtain rfl : x1 = nI ((i) + 1) := e1.trans (nI_add (i) 1)
  refine va_sld hx hb hX hbl hbA hS (vp_in_nI (by omega) (by omega)) d_law_404 ?_
  refine lv_topi (fun x2 e2 => ?_)
  obtain rfl : x2 = xs ((i) + 1) := e2.trans (congrArg xs (nI_clamp (by omega)))
  refine gcV_i2 (o := 0) (As := [.int (xs (i + 1))]) (rest := []) ⟨hx, hb, hml, hown, hT⟩ gH cwH hKH hPH hDH hS hA hnw henv (Nat.le_of_ble_eq_true rfl) rfl rfl hl.1 rfl (Nat.le_of_ble_eq_true rfl) d_law_405 ⟨Nat.le_of_ble_eq_true rfl, Nat.le_of_ble_eq_true rfl⟩ hPM bM.w apt.w (fun H1 locs1 hPH hDH hS hz hPM => ?_)
  have bH := bH.up hz
  have bM := bM.up hz
  refine lv_aload_n hx hb d_law_408 rfl (lv_at hl 1 rfl) ?_
  refine lv_aload_n hx hb d_law_409 rfl (lv_at hl 3 rfl) ?_
  refine lv_iload_n hx hb d_law_410 rfl (lv_at hl 0 rfl) ?_
  refine lv_iconst (v := 1) hx hb d_law_411 (by decide) ?_
  refine lv_iadd hx hb d_law_412 ?_
  refine lv_topi (fun x3 e3 => ?_)
  obtain rfl : x3 = nI ((i) + 1) := e3.trans (nI_add (i) 1)
  refine va_sld hx hb hX hbl hbA hS (vp_in_nI (by omega) (by omega)) d_law_413 ?_
  refine lv_topi (fun x4 e4 => ?_)
  obtain rfl : x4 = xs ((i) + 1) := e4.trans (congrArg xs (nI_clamp (by omega)))
  refine gcV_i2 (o := 0) (As := [.int (xs (i + 1))]) (rest := [.int r]) ⟨hx, hb, hml, hown, hT⟩ gM cwM hKM hPM hDM hS hA hnw henv (Nat.le_of_ble_eq_true rfl) rfl rfl hl.1 rfl (Nat.le_of_ble_eq_true rfl) d_law_414 ⟨Nat.le_of_ble_eq_true rfl, Nat.le_of_ble_eq_true rfl⟩ hPH bH.w apt.sy.w (fun H2 locs2 hPM hDM hS hz hPH => ?_)
  have bH := bH.up hz
  have bM := bM.up hz
  refine lv_icmp_eq (tgt := 422) hx hb d_law_417 (by decide) (fun _ => ?_) (fun c1 => absurd rfl c1)
  exact kk _ _ _ _ _ inv2 hPH hDH hPM hDM bH bM hS hl
