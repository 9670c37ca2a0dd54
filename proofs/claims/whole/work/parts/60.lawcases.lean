abbrev wH (hm : Nat → Nat) (km : Nat → ClassId) (x0 : Nat) : va_W := [oc x0 11 ([.ref (hm 0), .int 0, .int 0, .int 0, .ref (hm 1), .ref (hm 14), .ref (hm 35), .ref (hm 40), .ref (hm 41), .ref (hm 50), .ref (hm 52)] : List Value), ic (hm 0) (km 0) 4000 (fun _ => 0), oc (hm 1) 8 ([.ref (hm 2), .ref (hm 3), .ref (hm 4), .ref (hm 5), .ref (hm 6), .ref (hm 7), .ref (hm 8), .ref (hm 9), .int 0, .null, .int 0, .ref (hm 10), .ref (hm 11), .ref (hm 12), .int 0, .ref (hm 13)] : List Value), ic (hm 2) (km 2) 4008 (fun _ => 0), ic (hm 3) (km 3) 4008 (fun _ => 0), ic (hm 4) (km 4) 4008 (fun _ => 0), ic (hm 5) (km 5) 4008 (fun _ => 0), ic (hm 6) (km 6) 4008 (fun _ => 0), ic (hm 7) (km 7) 4008 (fun _ => 0), ic (hm 8) (km 8) 4008 (fun _ => 0), ic (hm 9) (km 9) 4008 (fun _ => 0), ic (hm 10) (km 10) 4001 (fun _ => 0), ic (hm 11) (km 11) 4001 (fun _ => 0), jc (hm 12) (km 12) 4001 (fun _ => 0), jc (hm 13) (km 13) 26 (wt 133), oc (hm 14) 3 ([.int 0, .ref (hm 15), .ref (hm 16), .ref (hm 17), .ref (hm 18), .ref (hm 19), .ref (hm 20), .ref (hm 21), .ref (hm 22), .ref (hm 23), .ref (hm 24), .ref (hm 25), .ref (hm 26), .ref (hm 27), .ref (hm 28), .ref (hm 29), .ref (hm 30), .ref (hm 31), .ref (hm 32), .ref (hm 33), .ref (hm 34)] : List Value), ic (hm 15) (km 15) 24 (fun _ => 0), ic (hm 16) (km 16) 24 (fun _ => 0), jc (hm 17) (km 17) 24 (fun _ => 0), ic (hm 18) (km 18) 24 (fun _ => 0), ic (hm 19) (km 19) 24 (fun _ => 0), ic (hm 20) (km 20) 24 (fun _ => 0), ic (hm 21) (km 21) 24 (fun _ => 0), ic (hm 22) (km 22) 24 (fun _ => 0), ic (hm 23) (km 23) 24 (fun _ => 0), ic (hm 24) (km 24) 24 (fun _ => 0), ic (hm 25) (km 25) 24 (fun _ => 0), ic (hm 26) (km 26) 24 (fun _ => 0), ic (hm 27) (km 27) 24 (fun _ => 0), ic (hm 28) (km 28) 24 (fun _ => 0), ic (hm 29) (km 29) 24 (fun _ => 0), ic (hm 30) (km 30) 192 (fun _ => 0), ic (hm 31) (km 31) 192 (fun _ => 0), ic (hm 32) (km 32) 192 (fun _ => 0), ic (hm 33) (km 33) 24 (fun _ => 0), ic (hm 34) (km 34) 72 (fun _ => 0), oc (hm 35) 0 ([.ref (hm 36), .ref (hm 37), .ref (hm 38), .int 0, .ref (hm 39), .int 0, .int (-1)] : List Value), ic (hm 36) (km 36) 6032 (fun _ => 0), ic (hm 37) (km 37) 6032 (fun _ => 0), ic (hm 38) (km 38) 6032 (fun _ => 0), ic (hm 39) (km 39) 7 (fun _ => 0), oc (hm 40) 6 ([.ref (hm 1), .ref (hm 14), .ref (hm 35), .int 0, .int 0, .int 0, .int 0] : List Value), oc (hm 41) 2 ([.ref (hm 1), .ref (hm 14), .ref (hm 42), .ref (hm 44), .ref (hm 35)] : List Value), oc (hm 42) 10 ([.ref (hm 43), .long 0] : List Value), jc (hm 43) (km 43) 16384 (fun _ => 0), oc (hm 44) 7 ([.ref (hm 1), .ref (hm 14), .ref (hm 42), .int 0, .int 0, .ref (hm 45), .ref (hm 46), .ref (hm 47), .int 0, .ref (hm 48), .ref (hm 49), .int 0, .int 0, .long 0] : List Value), jc (hm 45) (km 45) 20 (fun _ => 0), ic (hm 46) (km 46) 20 (fun _ => 0), ic (hm 47) (km 47) 21 (fun _ => 0), jc (hm 48) (km 48) 12 (fun _ => 0), ic (hm 49) (km 49) 12 (fun _ => 0), oc (hm 50) 9 ([.ref (hm 1), .ref (hm 14), .ref (hm 41), .ref (hm 42), .ref (hm 44), .ref (hm 51), .ref (hm 35)] : List Value), oc (hm 51) 1 ([.ref (hm 1), .ref (hm 14), .ref (hm 41), .ref (hm 42), .ref (hm 44), .ref (hm 35)] : List Value), oc (hm 52) 4 ([.ref (hm 35), .ref (hm 14), .ref (hm 58), .ref (hm 53), .int 0, .ref (hm 54), .int 0, .ref (hm 55), .int 0, .int 0, .int 0, .int 0, .int 0, .int 0, .ref (hm 56), .int 0, .ref (hm 57), .int 0] : List Value), ic (hm 53) (km 53) 23200 (fun _ => 0), ic (hm 54) (km 54) 697 (fun _ => 0), ic (hm 55) (km 55) 3200 (fun _ => 0), ic (hm 56) (km 56) 100 (fun _ => 0), ic (hm 57) (km 57) 300 (fun _ => 0), oc (hm 58) 5 ([.ref (hm 59), .ref (hm 60), .ref (hm 61), .int 0, .int 0, .int 0, .int 0, .int 0, .int 0, .ref (hm 62), .ref (hm 63), .ref (hm 64), .ref (hm 65), .ref (hm 66)] : List Value), ic (hm 59) (km 59) 4096 (fun _ => 0), ic (hm 60) (km 60) 4096 (fun _ => 0), ic (hm 61) (km 61) 64 (fun _ => 0), ic (hm 62) (km 62) 321 (fun _ => 0), ic (hm 63) (km 63) 321 (fun _ => 0), ic (hm 64) (km 64) 321 (fun _ => 0), ic (hm 65) (km 65) 321 (fun _ => 0), ic (hm 66) (km 66) 321 (fun _ => 0)]
abbrev tyH (km : Nat → ClassId) : List (ClassId × FieldType) := [((km 0), .char), ((km 2), .int), ((km 3), .int), ((km 4), .int), ((km 5), .int), ((km 6), .int), ((km 7), .int), ((km 8), .int), ((km 9), .int), ((km 10), .int), ((km 11), .int), ((km 12), .long), ((km 13), .long), ((km 15), .int), ((km 16), .int), ((km 17), .long), ((km 18), .int), ((km 19), .int), ((km 20), .int), ((km 21), .int), ((km 22), .int), ((km 23), .int), ((km 24), .int), ((km 25), .int), ((km 26), .int), ((km 27), .int), ((km 28), .int), ((km 29), .int), ((km 30), .int), ((km 31), .int), ((km 32), .int), ((km 33), .int), ((km 34), .int), ((km 36), .int), ((km 37), .int), ((km 38), .int), ((km 39), .int), ((km 43), .long), ((km 45), .long), ((km 46), .int), ((km 47), .int), ((km 48), .long), ((km 49), .int), ((km 53), .int), ((km 54), .int), ((km 55), .int), ((km 56), .int), ((km 57), .int), ((km 59), .int), ((km 60), .boolean), ((km 61), .int), ((km 62), .int), ((km 63), .int), ((km 64), .int), ((km 65), .int), ((km 66), .int)]
theorem w_eq9 (p : Int32) : (if p < 0 ∨ 8 < p then (-1 : Int32) else 0) = (if p = 0 then 0 else if p = 1 then 0 - 0 else if p = 2 then 0 else if p = 3 then 0 else if p = 4 then 0 else if p = 5 then 0 else if p = 6 then 0 else if p = 7 then 0 else if p = 8 then 0 else -1) := by
  simp only [i_lt, i_eq, Int32.reduceToInt]
  (repeat' split) <;> first | rfl | (exfalso; omega)
theorem w_any {P : Prop} (p : Int32) : p < 0 ∨ 0 ≤ p ∨ P := by
  by_cases h : p < 0
  · exact Or.inl h
  · exact Or.inr (Or.inl (Int32.not_lt.mp h))
theorem w_st (p a b c d : Int32) : (if p = 0 then (0 : Int32) else if p = 1 then (if (0 : Int32) = 3 then a else 0) else if p = 2 then (if (0 : Int32) = 1 then b else if (0 : Int32) = 0 ∨ (0 : Int32) = 2 then -1 else c) else -1) = (if p = 0 then 0 else if p = 1 then (if (0 : Int32) = 3 then a else 0) else if ¬ p = 2 ∨ (0 : Int32) = 0 ∨ (0 : Int32) = 2 then -1 else d) := by
  by_cases h0 : p = 0
  · rw [if_pos h0, if_pos h0]
  · by_cases h1 : p = 1
    · rw [if_neg h0, if_neg h0, if_pos h1, if_pos h1]
    · rw [if_neg h0, if_neg h0, if_neg h1, if_neg h1, if_pos (Or.inr (Or.inl rfl))]
      by_cases h2 : p = 2
      · rw [if_pos h2, if_neg (by decide), if_pos (Or.inl rfl)]
      · rw [if_neg h2]
set_option maxHeartbeats 4000000 in
set_option maxRecDepth 100000 in
theorem law_c0 {p : Program} {e : Env} {s : State} {m : MethodId} {below : List Frame} {meth : Method} {c : Code} (l : Launch) {b L : Nat} {xs : Nat → Int32} {A : Nat → Prop} {ad av : Nat → Nat} {dC : Nat → ClassId} {dI : Nat → Nat → Nat} {Q : State → Prop} {H : Heap} {locs : List Loc} {ls : Array Slot} {i x0 m0 : Nat} {hm : Nat → Nat} {km : Nat → ClassId} {hm2 : Nat → Nat} {km2 : Nat → ClassId} (hx : p.tables.exec = Jvm.exec) (hb : c.code = code) (hml : c.maxLocals = 4) (hown : s.vm.findClass R_law = some m.cls) (hT : ∀ w ∈ lw_good, w.before #[Value.ref b] s = true) (hnw : nw_all s) (henv : env0 ad av A s s.heap) (hX : va_X b L xs s s.heap) (hbl : b < s.heap.size) (hbA : ¬ A b) (hL : L ≤ 3072) (hi : i + 6 ≤ L) (hA : ∀ q : Nat, s.heap.size ≤ q → A q) (hK : va_K (dC, dI) cls_all (tyH km ++ tysG mo_tt 99 km2) s) (hP : va_P (dC, dI) cls_all (wH hm km x0 ++ at_mo0 hm2 km2 m0) H) (hD : va_D A (wH hm km x0 ++ at_mo0 hm2 km2 m0)) (hS : va_S A s.heap H locs) (hl : lv_has ls 4 [(3, .int (nI i)), (2, .ref m0), (1, .ref x0), (0, .ref b)]) (kk : ∀ (H : Heap) (locs : List Loc) (ls : Array Slot), va_S A s.heap H locs → lv_has ls 4 [(3, .int (nI i)), (2, .ref m0), (1, .ref x0), (0, .ref b)] → W p l e room_1 s m #[Value.ref b] below meth c H locs 246 442275 Q (F0 m 422 ls [])) : W p l e room_1 s m #[Value.ref b] below meth c H locs 246 442275 Q (F0 m 96 ls []) := by
  have hP := hP.sub (ws' := [oc x0 11 ([.ref (hm 0), .int 0, .int 0, .int 0, .ref (hm 1), .ref (hm 14), .ref (hm 35), .ref (hm 40), .ref (hm 41), .ref (hm 50), .ref (hm 52)] : List Value), ic (hm 0) (km 0) 4000 (fun _ => 0), oc m0 12 (fsG 153 mo_kd mo_ord 99 hm2 (va_up (va_up (fun _ => 0) 8 (-1)) 1 0) (fun _ => 0)), ic (hm2 0) (km2 0) 4000 (fun _ => 0)]) [0, 1, 68, 69] rfl
  have hD := hD.sub (ws' := [oc x0 11 ([.ref (hm 0), .int 0, .int 0, .int 0, .ref (hm 1), .ref (hm 14), .ref (hm 35), .ref (hm 40), .ref (hm 41), .ref (hm 50), .ref (hm 52)] : List Value), ic (hm 0) (km 0) 4000 (fun _ => 0), oc m0 12 (fsG 153 mo_kd mo_ord 99 hm2 (va_up (va_up (fun _ => 0) 8 (-1)) 1 0) (fun _ => 0)), ic (hm2 0) (km2 0) 4000 (fun _ => 0)]) [0, 1, 68, 69] (by decide) rfl
  have hK := hK.sub (tys' := [((km 0), .char), ((km2 0), .int)]) [0, 56] rfl
  obtain ⟨fsM, efM⟩ : ∃ z, z = (fsG 153 mo_kd mo_ord 99 hm2 (va_up (va_up (fun _ => 0) 8 (-1)) 1 0) (fun _ => 0)) := ⟨_, rfl⟩
  have lenM : fsM.length = 153 := by rw [efM]; exact fsG_len
  rw [← efM] at hP hD
  have gM_size : fsM[1]? = some (.int 0) := by rw [efM]; exact (fsG_at (by decide)).trans rfl
  have gM_text : fsM[0]? = some (.ref (hm2 0)) := by rw [efM]; exact (fsG_at (by decide)).trans rfl
  have hP : va_P (dC, dI) cls_all [oc x0 11 ([.ref (hm 0), .int 0, .int 0, .int 0, .ref (hm 1), .ref (hm 14), .ref (hm 35), .ref (hm 40), .ref (hm 41), .ref (hm 50), .ref (hm 52)] : List Value), ic (hm 0) (km 0) 4000 (fun _ => 0), oc m0 12 fsM, ic (hm2 0) (km2 0) 4000 (fun _ => 0)] H := hP
  have hD : va_D A [oc x0 11 ([.ref (hm 0), .int 0, .int 0, .int 0, .ref (hm 1), .ref (hm 14), .ref (hm 35), .ref (hm 40), .ref (hm 41), .ref (hm 50), .ref (hm 52)] : List Value), ic (hm 0) (km 0) 4000 (fun _ => 0), oc m0 12 fsM, ic (hm2 0) (km2 0) 4000 (fun _ => 0)] := hD
  refine lv_aload_n hx hb d_law_96 rfl (lv_at hl 2 rfl) ?_
  refine lv_aload_n hx hb d_law_97 rfl (lv_at hl 3 rfl) ?_
  refine lv_iload_n hx hb d_law_98 rfl (lv_at hl 0 rfl) ?_
  refine lv_iconst (v := 1) hx hb d_law_99 (by decide) ?_
  refine lv_iadd hx hb d_law_100 ?_
  refine lv_topi (fun x1 e1 => ?_)
  obtain rfl : x1 = nI ((i) + 1) := e1.trans (nI_add (i) 1)
  refine va_sld hx hb hX hbl hbA hS (vp_in_nI (by omega) (by omega)) d_law_101 ?_
  refine lv_topi (fun x2 e2 => ?_)
  obtain rfl : x2 = xs ((i) + 1) := e2.trans (congrArg xs (nI_clamp (by omega)))
  refine lv_aload_n hx hb d_law_102 rfl (lv_at hl 3 rfl) ?_
  refine lv_iload_n hx hb d_law_103 rfl (lv_at hl 0 rfl) ?_
  refine lv_iconst (v := 2) hx hb d_law_104 (by decide) ?_
  refine lv_iadd hx hb d_law_105 ?_
  refine lv_topi (fun x3 e3 => ?_)
  obtain rfl : x3 = nI ((i) + 2) := e3.trans (nI_add (i) 2)
  refine va_sld hx hb hX hbl hbA hS (vp_in_nI (by omega) (by omega)) d_law_106 ?_
  refine lv_topi (fun x4 e4 => ?_)
  obtain rfl : x4 = xs ((i) + 2) := e4.trans (congrArg xs (nI_clamp (by omega)))
  refine lv_aload_n hx hb d_law_107 rfl (lv_at hl 3 rfl) ?_
  refine lv_iload_n hx hb d_law_108 rfl (lv_at hl 0 rfl) ?_
  refine lv_iconst (v := 3) hx hb d_law_109 (by decide) ?_
  refine lv_iadd hx hb d_law_110 ?_
  refine lv_topi (fun x5 e5 => ?_)
  obtain rfl : x5 = nI ((i) + 3) := e5.trans (nI_add (i) 3)
  refine va_sld hx hb hX hbl hbA hS (vp_in_nI (by omega) (by omega)) d_law_111 ?_
  refine lv_topi (fun x6 e6 => ?_)
  obtain rfl : x6 = xs ((i) + 3) := e6.trans (congrArg xs (nI_clamp (by omega)))
  refine lv_aload_n hx hb d_law_112 rfl (lv_at hl 3 rfl) ?_
  refine lv_iload_n hx hb d_law_113 rfl (lv_at hl 0 rfl) ?_
  refine lv_iconst (v := 4) hx hb d_law_114 (by decide) ?_
  refine lv_iadd hx hb d_law_115 ?_
  refine lv_topi (fun x7 e7 => ?_)
  obtain rfl : x7 = nI ((i) + 4) := e7.trans (nI_add (i) 4)
  refine va_sld hx hb hX hbl hbA hS (vp_in_nI (by omega) (by omega)) d_law_116 ?_
  refine lv_topi (fun x8 e8 => ?_)
  obtain rfl : x8 = xs ((i) + 4) := e8.trans (congrArg xs (nI_clamp (by omega)))
  refine lv_aload_n hx hb d_law_117 rfl (lv_at hl 3 rfl) ?_
  refine lv_iload_n hx hb d_law_118 rfl (lv_at hl 0 rfl) ?_
  refine lv_iconst (v := 5) hx hb d_law_119 (by decide) ?_
  refine lv_iadd hx hb d_law_120 ?_
  refine lv_topi (fun x9 e9 => ?_)
  obtain rfl : x9 = nI ((i) + 5) := e9.trans (nI_add (i) 5)
  refine va_sld hx hb hX hbl hbA hS (vp_in_nI (by omega) (by omega)) d_law_121 ?_
  refine lv_topi (fun x10 e10 => ?_)
  obtain rfl : x10 = xs ((i) + 5) := e10.trans (congrArg xs (nI_clamp (by omega)))
  have hPc := hP.sub (ws' := [oc x0 11 ([.ref (hm 0), .int 0, .int 0, .int 0, .ref (hm 1), .ref (hm 14), .ref (hm 35), .ref (hm 40), .ref (hm 41), .ref (hm 50), .ref (hm 52)] : List Value), ic (hm 0) (km 0) 4000 (fun _ => 0)]) [0, 1] rfl
  have hKc := hK.sub (tys' := [((km 0), .char)]) [0] rfl
  have hDc := hD.sub (ws' := [oc x0 11 ([.ref (hm 0), .int 0, .int 0, .int 0, .ref (hm 1), .ref (hm 14), .ref (hm 35), .ref (hm 40), .ref (hm 41), .ref (hm 50), .ref (hm 52)] : List Value), ic (hm 0) (km 0) 4000 (fun _ => 0)]) [0, 1] (by decide) rfl
  have hFc := va_free (wc := [oc x0 11 ([.ref (hm 0), .int 0, .int 0, .int 0, .ref (hm 1), .ref (hm 14), .ref (hm 35), .ref (hm 40), .ref (hm 41), .ref (hm 50), .ref (hm 52)] : List Value), ic (hm 0) (km 0) 4000 (fun _ => 0)]) hD hS hA [0, 1] rfl
  refine va_calli (va_runV (As := [.int (xs ((i) + 1)), .int (xs ((i) + 2)), .int (xs ((i) + 3)), .int (xs ((i) + 4)), .int (xs ((i) + 5))]) (rest := []) ⟨hx, hb, hml, hown, hT⟩ (c_House_feed_in l dC dI (sz := H.size) (h_this := x0) (h_text := (hm 0)) (fs_this := ([.ref (hm 0), .int 0, .int 0, .int 0, .ref (hm 1), .ref (hm 14), .ref (hm 35), .ref (hm 40), .ref (hm 41), .ref (hm 50), .ref (hm 52)] : List Value)) (k_text := (km 0)) (f_text := (fun _ => 0)) (p1 := (xs ((i) + 1))) (p2 := (xs ((i) + 2))) (p3 := (xs ((i) + 3))) (p4 := (xs ((i) + 4))) (p5 := (xs ((i) + 5))) (n := 0) (len_this := rfl) (g_this_length := rfl) (g_this_text := rfl) (hn := (by decide))) (cwV 5 hT (gV ml_law_13 im_House_feed se_House_feed ini_House co_House_feed) rfl rfl rfl (by decide +kernel) ⟨Nat.le_of_ble_eq_true rfl, Nat.le_of_ble_eq_true rfl⟩) ⟨fbQ, va_recv hKc hPc (ci := 11) (q0 := 0) rfl rfl, fun U hU hW => ⟨rfl, by rw [hU], by rw [hU]; exact hPc, va_K.moved hW.alike hKc, hDc.weaken (fun _ _ _ _ => trivial)⟩⟩ rfl rfl hl.1 rfl (lv_room (Nat.le_of_ble_eq_true rfl)) d_law_122 ⟨Nat.le_of_ble_eq_true rfl, Nat.le_of_ble_eq_true rfl⟩) hS (fun q _ h => hFc q h) hFc (fun r11 u t H1 locs ht hvm hw hB hz1 hk1 hS => ?_)
  subst hw
  obtain ⟨fs_this_11, f_text_11, ⟨hw11_0, hw11_1, hw11_2, hw11_3, hw11_4⟩, hP1, hK1, hD1⟩ := hB
  rw [ht] at hP1
  have hK1 := va_K.moved hvm.symm hK1
  obtain ⟨hP, hD⟩ := va_join (wr := [oc m0 12 fsM, ic (hm2 0) (km2 0) 4000 (fun _ => 0)]) (w1 := [oc x0 11 fs_this_11, ic (hm 0) (km 0) 4000 f_text_11]) hP hD [0, 1] [2, 3] rfl rfl (by decide) (by decide) hk1 hFc hP1 hD1
  generalize H1 = H at hP hS ⊢
  have hP : va_P (dC, dI) cls_all [oc m0 12 fsM, ic (hm2 0) (km2 0) 4000 (fun _ => 0), oc x0 11 fs_this_11, ic (hm 0) (km 0) 4000 f_text_11] H := hP
  have hD : va_D A [oc m0 12 fsM, ic (hm2 0) (km2 0) 4000 (fun _ => 0), oc x0 11 fs_this_11, ic (hm 0) (km 0) 4000 f_text_11] := hD
  refine lv_aload_n hx hb d_law_125 rfl (lv_at hl 1 rfl) ?_
  refine lv_aload_n hx hb d_law_126 rfl (lv_at hl 3 rfl) ?_
  refine lv_iload_n hx hb d_law_127 rfl (lv_at hl 0 rfl) ?_
  refine lv_iconst (v := 1) hx hb d_law_128 (by decide) ?_
  refine lv_iadd hx hb d_law_129 ?_
  refine lv_topi (fun x12 e12 => ?_)
  obtain rfl : x12 = nI ((i) + 1) := e12.trans (nI_add (i) 1)
  refine va_sld hx hb hX hbl hbA hS (vp_in_nI (by omega) (by omega)) d_law_130 ?_
  refine lv_topi (fun x13 e13 => ?_)
  obtain rfl : x13 = xs ((i) + 1) := e13.trans (congrArg xs (nI_clamp (by omega)))
  refine lv_aload_n hx hb d_law_131 rfl (lv_at hl 3 rfl) ?_
  refine lv_iload_n hx hb d_law_132 rfl (lv_at hl 0 rfl) ?_
  refine lv_iconst (v := 2) hx hb d_law_133 (by decide) ?_
  refine lv_iadd hx hb d_law_134 ?_
  refine lv_topi (fun x14 e14 => ?_)
  obtain rfl : x14 = nI ((i) + 2) := e14.trans (nI_add (i) 2)
  refine va_sld hx hb hX hbl hbA hS (vp_in_nI (by omega) (by omega)) d_law_135 ?_
  refine lv_topi (fun x15 e15 => ?_)
  obtain rfl : x15 = xs ((i) + 2) := e15.trans (congrArg xs (nI_clamp (by omega)))
  refine lv_aload_n hx hb d_law_136 rfl (lv_at hl 3 rfl) ?_
  refine lv_iload_n hx hb d_law_137 rfl (lv_at hl 0 rfl) ?_
  refine lv_iconst (v := 3) hx hb d_law_138 (by decide) ?_
  refine lv_iadd hx hb d_law_139 ?_
  refine lv_topi (fun x16 e16 => ?_)
  obtain rfl : x16 = nI ((i) + 3) := e16.trans (nI_add (i) 3)
  refine va_sld hx hb hX hbl hbA hS (vp_in_nI (by omega) (by omega)) d_law_140 ?_
  refine lv_topi (fun x17 e17 => ?_)
  obtain rfl : x17 = xs ((i) + 3) := e17.trans (congrArg xs (nI_clamp (by omega)))
  refine lv_aload_n hx hb d_law_141 rfl (lv_at hl 3 rfl) ?_
  refine lv_iload_n hx hb d_law_142 rfl (lv_at hl 0 rfl) ?_
  refine lv_iconst (v := 4) hx hb d_law_143 (by decide) ?_
  refine lv_iadd hx hb d_law_144 ?_
  refine lv_topi (fun x18 e18 => ?_)
  obtain rfl : x18 = nI ((i) + 4) := e18.trans (nI_add (i) 4)
  refine va_sld hx hb hX hbl hbA hS (vp_in_nI (by omega) (by omega)) d_law_145 ?_
  refine lv_topi (fun x19 e19 => ?_)
  obtain rfl : x19 = xs ((i) + 4) := e19.trans (congrArg xs (nI_clamp (by omega)))
  refine lv_aload_n hx hb d_law_146 rfl (lv_at hl 3 rfl) ?_
  refine lv_iload_n hx hb d_law_147 rfl (lv_at hl 0 rfl) ?_
  refine lv_iconst (v := 5) hx hb d_law_148 (by decide) ?_
  refine lv_iadd hx hb d_law_149 ?_
  refine lv_topi (fun x20 e20 => ?_)
  obtain rfl : x20 = nI ((i) + 5) := e20.trans (nI_add (i) 5)
  refine va_sld hx hb hX hbl hbA hS (vp_in_nI (by omega) (by omega)) d_law_150 ?_
  refine lv_topi (fun x21 e21 => ?_)
  obtain rfl : x21 = xs ((i) + 5) := e21.trans (congrArg xs (nI_clamp (by omega)))
  have hPc := hP.sub (ws' := [oc m0 12 fsM, ic (hm2 0) (km2 0) 4000 (fun _ => 0)]) [0, 1] rfl
  have hKc := hK.sub (tys' := [((km2 0), .int)]) [1] rfl
  have hDc := hD.sub (ws' := [oc m0 12 fsM, ic (hm2 0) (km2 0) 4000 (fun _ => 0)]) [0, 1] (by decide) rfl
  have hFc := va_free (wc := [oc m0 12 fsM, ic (hm2 0) (km2 0) 4000 (fun _ => 0)]) hD hS hA [0, 1] rfl
  refine va_calli (va_runV (As := [.int (xs ((i) + 1)), .int (xs ((i) + 2)), .int (xs ((i) + 3)), .int (xs ((i) + 4)), .int (xs ((i) + 5))]) (rest := [.int r11]) ⟨hx, hb, hml, hown, hT⟩ (c_Model_feed_in l dC dI (sz := H.size) (h_this := m0) (h_text := (hm2 0)) (fs_this := fsM) (k_text := (km2 0)) (f_text := (fun _ => 0)) (p1 := (xs ((i) + 1))) (p2 := (xs ((i) + 2))) (p3 := (xs ((i) + 3))) (p4 := (xs ((i) + 4))) (p5 := (xs ((i) + 5))) (n := 0) (len_this := (by first | exact lenM | (simp only [List.length_set]; exact lenM))) (g_this_size := gM_size) (g_this_text := gM_text) (hn := (by decide))) (cwV 5 hT (gV ml_law_17 im_Model_feed se_Model_feed ini_Model co_Model_feed) rfl rfl rfl (by decide +kernel) ⟨Nat.le_of_ble_eq_true rfl, Nat.le_of_ble_eq_true rfl⟩) ⟨fbQ, va_recv hKc hPc (ci := 12) (q0 := 0) rfl rfl, fun U hU hW => ⟨rfl, by rw [hU], by rw [hU]; exact hPc, va_K.moved hW.alike hKc, hDc.weaken (fun _ _ _ _ => trivial)⟩⟩ rfl rfl hl.1 rfl (lv_room (Nat.le_of_ble_eq_true rfl)) d_law_151 ⟨Nat.le_of_ble_eq_true rfl, Nat.le_of_ble_eq_true rfl⟩) hS (fun q _ h => hFc q h) hFc (fun r22 u t H1 locs ht hvm hw hB hz1 hk1 hS => ?_)
  subst hw
  obtain ⟨fs_this_22, f_text_22, ⟨hw22_0, hw22_1, hw22_2, hw22_3, hw22_4⟩, hP1, hK1, hD1⟩ := hB
  rw [ht] at hP1
  have hK1 := va_K.moved hvm.symm hK1
  obtain ⟨hP, hD⟩ := va_join (wr := [oc x0 11 fs_this_11, ic (hm 0) (km 0) 4000 f_text_11]) (w1 := [oc m0 12 fs_this_22, ic (hm2 0) (km2 0) 4000 f_text_22]) hP hD [0, 1] [2, 3] rfl rfl (by decide) (by decide) hk1 hFc hP1 hD1
  generalize H1 = H at hP hS ⊢
  have hP : va_P (dC, dI) cls_all [oc x0 11 fs_this_11, ic (hm 0) (km 0) 4000 f_text_11, oc m0 12 fs_this_22, ic (hm2 0) (km2 0) 4000 f_text_22] H := hP
  have hD : va_D A [oc x0 11 fs_this_11, ic (hm 0) (km 0) 4000 f_text_11, oc m0 12 fs_this_22, ic (hm2 0) (km2 0) 4000 f_text_22] := hD
  have hq : r11 = r22 := hw11_4.trans hw22_4.symm
  refine lv_icmp_eq (tgt := 422) hx hb d_law_154 (by decide) (fun c23 => ?_) (fun c23 => absurd hq c23)
  exact kk _ _ _ hS (lv_sub hl [0, 1, 2, 3] rfl)
set_option maxHeartbeats 4000000 in
set_option maxRecDepth 100000 in
theorem law_c1 {p : Program} {e : Env} {s : State} {m : MethodId} {below : List Frame} {meth : Method} {c : Code} (l : Launch) {b L : Nat} {xs : Nat → Int32} {A : Nat → Prop} {ad av : Nat → Nat} {dC : Nat → ClassId} {dI : Nat → Nat → Nat} {Q : State → Prop} {H : Heap} {locs : List Loc} {ls : Array Slot} {i x0 m0 : Nat} {hm : Nat → Nat} {km : Nat → ClassId} {hm2 : Nat → Nat} {km2 : Nat → ClassId} (hx : p.tables.exec = Jvm.exec) (hb : c.code = code) (hml : c.maxLocals = 4) (hown : s.vm.findClass R_law = some m.cls) (hT : ∀ w ∈ lw_good, w.before #[Value.ref b] s = true) (hnw : nw_all s) (henv : env0 ad av A s s.heap) (hX : va_X b L xs s s.heap) (hbl : b < s.heap.size) (hbA : ¬ A b) (hL : L ≤ 3072) (hi : i + 6 ≤ L) (hA : ∀ q : Nat, s.heap.size ≤ q → A q) (hK : va_K (dC, dI) cls_all (tyH km ++ tysG mo_tt 99 km2) s) (hP : va_P (dC, dI) cls_all (wH hm km x0 ++ at_mo0 hm2 km2 m0) H) (hD : va_D A (wH hm km x0 ++ at_mo0 hm2 km2 m0)) (hS : va_S A s.heap H locs) (hl : lv_has ls 4 [(3, .int (nI i)), (2, .ref m0), (1, .ref x0), (0, .ref b)]) (kk : ∀ (H : Heap) (locs : List Loc) (ls : Array Slot), va_S A s.heap H locs → lv_has ls 4 [(3, .int (nI i)), (2, .ref m0), (1, .ref x0), (0, .ref b)] → W p l e room_1 s m #[Value.ref b] below meth c H locs 246 442275 Q (F0 m 422 ls [])) : W p l e room_1 s m #[Value.ref b] below meth c H locs 246 442275 Q (F0 m 159 ls []) := by
  have hP := hP.sub (ws' := [oc x0 11 ([.ref (hm 0), .int 0, .int 0, .int 0, .ref (hm 1), .ref (hm 14), .ref (hm 35), .ref (hm 40), .ref (hm 41), .ref (hm 50), .ref (hm 52)] : List Value), oc m0 12 (fsG 153 mo_kd mo_ord 99 hm2 (va_up (va_up (fun _ => 0) 8 (-1)) 1 0) (fun _ => 0))]) [0, 68] rfl
  have hD := hD.sub (ws' := [oc x0 11 ([.ref (hm 0), .int 0, .int 0, .int 0, .ref (hm 1), .ref (hm 14), .ref (hm 35), .ref (hm 40), .ref (hm 41), .ref (hm 50), .ref (hm 52)] : List Value), oc m0 12 (fsG 153 mo_kd mo_ord 99 hm2 (va_up (va_up (fun _ => 0) 8 (-1)) 1 0) (fun _ => 0))]) [0, 68] (by decide) rfl
  have hK := hK.sub (tys' := []) [] rfl
  obtain ⟨fsM, efM⟩ : ∃ z, z = (fsG 153 mo_kd mo_ord 99 hm2 (va_up (va_up (fun _ => 0) 8 (-1)) 1 0) (fun _ => 0)) := ⟨_, rfl⟩
  have lenM : fsM.length = 153 := by rw [efM]; exact fsG_len
  rw [← efM] at hP hD
  have gM_size : fsM[1]? = some (.int 0) := by rw [efM]; exact (fsG_at (by decide)).trans rfl
  have hP : va_P (dC, dI) cls_all [oc x0 11 ([.ref (hm 0), .int 0, .int 0, .int 0, .ref (hm 1), .ref (hm 14), .ref (hm 35), .ref (hm 40), .ref (hm 41), .ref (hm 50), .ref (hm 52)] : List Value), oc m0 12 fsM] H := hP
  have hD : va_D A [oc x0 11 ([.ref (hm 0), .int 0, .int 0, .int 0, .ref (hm 1), .ref (hm 14), .ref (hm 35), .ref (hm 40), .ref (hm 41), .ref (hm 50), .ref (hm 52)] : List Value), oc m0 12 fsM] := hD
  refine lv_aload_n hx hb d_law_159 rfl (lv_at hl 2 rfl) ?_
  refine lv_aload_n hx hb d_law_160 rfl (lv_at hl 3 rfl) ?_
  refine lv_iload_n hx hb d_law_161 rfl (lv_at hl 0 rfl) ?_
  refine lv_iconst (v := 1) hx hb d_law_162 (by decide) ?_
  refine lv_iadd hx hb d_law_163 ?_
  refine lv_topi (fun x1 e1 => ?_)
  obtain rfl : x1 = nI ((i) + 1) := e1.trans (nI_add (i) 1)
  refine va_sld hx hb hX hbl hbA hS (vp_in_nI (by omega) (by omega)) d_law_164 ?_
  refine lv_topi (fun x2 e2 => ?_)
  obtain rfl : x2 = xs ((i) + 1) := e2.trans (congrArg xs (nI_clamp (by omega)))
  have hPc := hP.sub (ws' := [oc x0 11 ([.ref (hm 0), .int 0, .int 0, .int 0, .ref (hm 1), .ref (hm 14), .ref (hm 35), .ref (hm 40), .ref (hm 41), .ref (hm 50), .ref (hm 52)] : List Value)]) [0] rfl
  have hKc := hK.sub (tys' := []) [] rfl
  have hDc := hD.sub (ws' := [oc x0 11 ([.ref (hm 0), .int 0, .int 0, .int 0, .ref (hm 1), .ref (hm 14), .ref (hm 35), .ref (hm 40), .ref (hm 41), .ref (hm 50), .ref (hm 52)] : List Value)]) [0] (by decide) rfl
  have hFc := va_free (wc := [oc x0 11 ([.ref (hm 0), .int 0, .int 0, .int 0, .ref (hm 1), .ref (hm 14), .ref (hm 35), .ref (hm 40), .ref (hm 41), .ref (hm 50), .ref (hm 52)] : List Value)]) hD hS hA [0] rfl
  refine va_calli (va_runV (As := [.int (xs ((i) + 1))]) (rest := []) ⟨hx, hb, hml, hown, hT⟩ (c_House_end l dC dI (sz := H.size) (h_this := x0) (fs_this := ([.ref (hm 0), .int 0, .int 0, .int 0, .ref (hm 1), .ref (hm 14), .ref (hm 35), .ref (hm 40), .ref (hm 41), .ref (hm 50), .ref (hm 52)] : List Value)) (v_this_length := 0) (p1 := (xs ((i) + 1))) (len_this := rfl) (g_this_length := rfl)) (cwV 1 hT (gV ml_law_18 im_House_end se_House_end ini_House co_House_end) rfl rfl rfl (by decide +kernel) ⟨Nat.le_of_ble_eq_true rfl, Nat.le_of_ble_eq_true rfl⟩) ⟨fbQ, va_recv hKc hPc (ci := 11) (q0 := 0) rfl rfl, fun U hU hW => ⟨rfl, by rw [hU], by rw [hU]; exact hPc, va_K.moved hW.alike hKc, hDc.weaken (fun _ _ _ _ => trivial)⟩⟩ rfl rfl hl.1 rfl (lv_room (Nat.le_of_ble_eq_true rfl)) d_law_165 ⟨Nat.le_of_ble_eq_true rfl, Nat.le_of_ble_eq_true rfl⟩) hS (fun q _ h => hFc q h) hFc (fun r3 u t H1 locs ht hvm hw hB hz1 hk1 hS => ?_)
  subst hw
  obtain ⟨fs_this_3, ⟨hw3_0, hw3_1, hw3_2, hw3_3⟩, hP1, hK1, hD1⟩ := hB
  rw [ht] at hP1
  have hK1 := va_K.moved hvm.symm hK1
  obtain ⟨hP, hD⟩ := va_join (wr := [oc m0 12 fsM]) (w1 := [oc x0 11 fs_this_3]) hP hD [0] [1] rfl rfl (by decide) (by decide) hk1 hFc hP1 hD1
  generalize H1 = H at hP hS ⊢
  have hP : va_P (dC, dI) cls_all [oc m0 12 fsM, oc x0 11 fs_this_3] H := hP
  have hD : va_D A [oc m0 12 fsM, oc x0 11 fs_this_3] := hD
  refine lv_aload_n hx hb d_law_168 rfl (lv_at hl 1 rfl) ?_
  refine lv_aload_n hx hb d_law_169 rfl (lv_at hl 3 rfl) ?_
  refine lv_iload_n hx hb d_law_170 rfl (lv_at hl 0 rfl) ?_
  refine lv_iconst (v := 1) hx hb d_law_171 (by decide) ?_
  refine lv_iadd hx hb d_law_172 ?_
  refine lv_topi (fun x4 e4 => ?_)
  obtain rfl : x4 = nI ((i) + 1) := e4.trans (nI_add (i) 1)
  refine va_sld hx hb hX hbl hbA hS (vp_in_nI (by omega) (by omega)) d_law_173 ?_
  refine lv_topi (fun x5 e5 => ?_)
  obtain rfl : x5 = xs ((i) + 1) := e5.trans (congrArg xs (nI_clamp (by omega)))
  have hPc := hP.sub (ws' := [oc m0 12 fsM]) [0] rfl
  have hKc := hK.sub (tys' := []) [] rfl
  have hDc := hD.sub (ws' := [oc m0 12 fsM]) [0] (by decide) rfl
  have hFc := va_free (wc := [oc m0 12 fsM]) hD hS hA [0] rfl
  refine va_calli (va_runV (As := [.int (xs ((i) + 1))]) (rest := [.int r3]) ⟨hx, hb, hml, hown, hT⟩ (c_Model_end l dC dI (sz := H.size) (h_this := m0) (fs_this := fsM) (v_this_size := 0) (p1 := (xs ((i) + 1))) (len_this := (by first | exact lenM | (simp only [List.length_set]; exact lenM))) (g_this_size := gM_size)) (cwV 1 hT (gV ml_law_22 im_Model_end se_Model_end ini_Model co_Model_end) rfl rfl rfl (by decide +kernel) ⟨Nat.le_of_ble_eq_true rfl, Nat.le_of_ble_eq_true rfl⟩) ⟨fbQ, va_recv hKc hPc (ci := 12) (q0 := 0) rfl rfl, fun U hU hW => ⟨rfl, by rw [hU], by rw [hU]; exact hPc, va_K.moved hW.alike hKc, hDc.weaken (fun _ _ _ _ => trivial)⟩⟩ rfl rfl hl.1 rfl (lv_room (Nat.le_of_ble_eq_true rfl)) d_law_174 ⟨Nat.le_of_ble_eq_true rfl, Nat.le_of_ble_eq_true rfl⟩) hS (fun q _ h => hFc q h) hFc (fun r6 u t H1 locs ht hvm hw hB hz1 hk1 hS => ?_)
  subst hw
  obtain ⟨fs_this_6, ⟨hw6_0, hw6_1, hw6_2, hw6_3⟩, hP1, hK1, hD1⟩ := hB
  rw [ht] at hP1
  have hK1 := va_K.moved hvm.symm hK1
  obtain ⟨hP, hD⟩ := va_join (wr := [oc x0 11 fs_this_3]) (w1 := [oc m0 12 fs_this_6]) hP hD [0] [1] rfl rfl (by decide) (by decide) hk1 hFc hP1 hD1
  generalize H1 = H at hP hS ⊢
  have hP : va_P (dC, dI) cls_all [oc x0 11 fs_this_3, oc m0 12 fs_this_6] H := hP
  have hD : va_D A [oc x0 11 fs_this_3, oc m0 12 fs_this_6] := hD
  have hq : r3 = r6 := hw3_3.trans hw6_3.symm
  refine lv_icmp_eq (tgt := 422) hx hb d_law_177 (by decide) (fun c7 => ?_) (fun c7 => absurd hq c7)
  exact kk _ _ _ hS (lv_sub hl [0, 1, 2, 3] rfl)
set_option maxHeartbeats 4000000 in
set_option maxRecDepth 100000 in
theorem law_c2 {p : Program} {e : Env} {s : State} {m : MethodId} {below : List Frame} {meth : Method} {c : Code} (l : Launch) {b L : Nat} {xs : Nat → Int32} {A : Nat → Prop} {ad av : Nat → Nat} {dC : Nat → ClassId} {dI : Nat → Nat → Nat} {Q : State → Prop} {H : Heap} {locs : List Loc} {ls : Array Slot} {i x0 m0 : Nat} {hm : Nat → Nat} {km : Nat → ClassId} {hm2 : Nat → Nat} {km2 : Nat → ClassId} (hx : p.tables.exec = Jvm.exec) (hb : c.code = code) (hml : c.maxLocals = 4) (hown : s.vm.findClass R_law = some m.cls) (hT : ∀ w ∈ lw_good, w.before #[Value.ref b] s = true) (hnw : nw_all s) (henv : env0 ad av A s s.heap) (hX : va_X b L xs s s.heap) (hbl : b < s.heap.size) (hbA : ¬ A b) (hL : L ≤ 3072) (hi : i + 6 ≤ L) (hA : ∀ q : Nat, s.heap.size ≤ q → A q) (hK : va_K (dC, dI) cls_all (tyH km ++ tysG mo_tt 99 km2) s) (hP : va_P (dC, dI) cls_all (wH hm km x0 ++ at_mo0 hm2 km2 m0) H) (hD : va_D A (wH hm km x0 ++ at_mo0 hm2 km2 m0)) (hS : va_S A s.heap H locs) (hl : lv_has ls 4 [(3, .int (nI i)), (2, .ref m0), (1, .ref x0), (0, .ref b)]) (kk : ∀ (H : Heap) (locs : List Loc) (ls : Array Slot), va_S A s.heap H locs → lv_has ls 4 [(3, .int (nI i)), (2, .ref m0), (1, .ref x0), (0, .ref b)] → W p l e room_1 s m #[Value.ref b] below meth c H locs 246 442275 Q (F0 m 422 ls [])) : W p l e room_1 s m #[Value.ref b] below meth c H locs 246 442275 Q (F0 m 182 ls []) := by
  have hP := hP.sub (ws' := [oc x0 11 ([.ref (hm 0), .int 0, .int 0, .int 0, .ref (hm 1), .ref (hm 14), .ref (hm 35), .ref (hm 40), .ref (hm 41), .ref (hm 50), .ref (hm 52)] : List Value), ic (hm 0) (km 0) 4000 (fun _ => 0), oc (hm 52) 4 ([.ref (hm 35), .ref (hm 14), .ref (hm 58), .ref (hm 53), .int 0, .ref (hm 54), .int 0, .ref (hm 55), .int 0, .int 0, .int 0, .int 0, .int 0, .int 0, .ref (hm 56), .int 0, .ref (hm 57), .int 0] : List Value), oc (hm 35) 0 ([.ref (hm 36), .ref (hm 37), .ref (hm 38), .int 0, .ref (hm 39), .int 0, .int (-1)] : List Value), ic (hm 39) (km 39) 7 (fun _ => 0), oc (hm 1) 8 ([.ref (hm 2), .ref (hm 3), .ref (hm 4), .ref (hm 5), .ref (hm 6), .ref (hm 7), .ref (hm 8), .ref (hm 9), .int 0, .null, .int 0, .ref (hm 10), .ref (hm 11), .ref (hm 12), .int 0, .ref (hm 13)] : List Value), ic (hm 10) (km 10) 4001 (fun _ => 0), ic (hm 11) (km 11) 4001 (fun _ => 0), ic (hm 2) (km 2) 4008 (fun _ => 0), ic (hm 3) (km 3) 4008 (fun _ => 0), ic (hm 4) (km 4) 4008 (fun _ => 0), ic (hm 5) (km 5) 4008 (fun _ => 0), ic (hm 6) (km 6) 4008 (fun _ => 0), ic (hm 7) (km 7) 4008 (fun _ => 0), ic (hm 8) (km 8) 4008 (fun _ => 0), ic (hm 9) (km 9) 4008 (fun _ => 0), oc (hm 40) 6 ([.ref (hm 1), .ref (hm 14), .ref (hm 35), .int 0, .int 0, .int 0, .int 0] : List Value), oc (hm 14) 3 ([.int 0, .ref (hm 15), .ref (hm 16), .ref (hm 17), .ref (hm 18), .ref (hm 19), .ref (hm 20), .ref (hm 21), .ref (hm 22), .ref (hm 23), .ref (hm 24), .ref (hm 25), .ref (hm 26), .ref (hm 27), .ref (hm 28), .ref (hm 29), .ref (hm 30), .ref (hm 31), .ref (hm 32), .ref (hm 33), .ref (hm 34)] : List Value), oc m0 12 (fsG 153 mo_kd mo_ord 99 hm2 (va_up (va_up (fun _ => 0) 8 (-1)) 1 0) (fun _ => 0))]) [0, 1, 53, 36, 40, 2, 11, 12, 3, 4, 5, 6, 7, 8, 9, 10, 41, 15, 68] rfl
  have hD := hD.sub (ws' := [oc x0 11 ([.ref (hm 0), .int 0, .int 0, .int 0, .ref (hm 1), .ref (hm 14), .ref (hm 35), .ref (hm 40), .ref (hm 41), .ref (hm 50), .ref (hm 52)] : List Value), ic (hm 0) (km 0) 4000 (fun _ => 0), oc (hm 52) 4 ([.ref (hm 35), .ref (hm 14), .ref (hm 58), .ref (hm 53), .int 0, .ref (hm 54), .int 0, .ref (hm 55), .int 0, .int 0, .int 0, .int 0, .int 0, .int 0, .ref (hm 56), .int 0, .ref (hm 57), .int 0] : List Value), oc (hm 35) 0 ([.ref (hm 36), .ref (hm 37), .ref (hm 38), .int 0, .ref (hm 39), .int 0, .int (-1)] : List Value), ic (hm 39) (km 39) 7 (fun _ => 0), oc (hm 1) 8 ([.ref (hm 2), .ref (hm 3), .ref (hm 4), .ref (hm 5), .ref (hm 6), .ref (hm 7), .ref (hm 8), .ref (hm 9), .int 0, .null, .int 0, .ref (hm 10), .ref (hm 11), .ref (hm 12), .int 0, .ref (hm 13)] : List Value), ic (hm 10) (km 10) 4001 (fun _ => 0), ic (hm 11) (km 11) 4001 (fun _ => 0), ic (hm 2) (km 2) 4008 (fun _ => 0), ic (hm 3) (km 3) 4008 (fun _ => 0), ic (hm 4) (km 4) 4008 (fun _ => 0), ic (hm 5) (km 5) 4008 (fun _ => 0), ic (hm 6) (km 6) 4008 (fun _ => 0), ic (hm 7) (km 7) 4008 (fun _ => 0), ic (hm 8) (km 8) 4008 (fun _ => 0), ic (hm 9) (km 9) 4008 (fun _ => 0), oc (hm 40) 6 ([.ref (hm 1), .ref (hm 14), .ref (hm 35), .int 0, .int 0, .int 0, .int 0] : List Value), oc (hm 14) 3 ([.int 0, .ref (hm 15), .ref (hm 16), .ref (hm 17), .ref (hm 18), .ref (hm 19), .ref (hm 20), .ref (hm 21), .ref (hm 22), .ref (hm 23), .ref (hm 24), .ref (hm 25), .ref (hm 26), .ref (hm 27), .ref (hm 28), .ref (hm 29), .ref (hm 30), .ref (hm 31), .ref (hm 32), .ref (hm 33), .ref (hm 34)] : List Value), oc m0 12 (fsG 153 mo_kd mo_ord 99 hm2 (va_up (va_up (fun _ => 0) 8 (-1)) 1 0) (fun _ => 0))]) [0, 1, 53, 36, 40, 2, 11, 12, 3, 4, 5, 6, 7, 8, 9, 10, 41, 15, 68] (by decide) rfl
  have hK := hK.sub (tys' := [((km 0), .char), ((km 39), .int), ((km 10), .int), ((km 11), .int), ((km 2), .int), ((km 3), .int), ((km 4), .int), ((km 5), .int), ((km 6), .int), ((km 7), .int), ((km 8), .int), ((km 9), .int)]) [0, 36, 9, 10, 1, 2, 3, 4, 5, 6, 7, 8] rfl
  obtain ⟨fsM, efM⟩ : ∃ z, z = (fsG 153 mo_kd mo_ord 99 hm2 (va_up (va_up (fun _ => 0) 8 (-1)) 1 0) (fun _ => 0)) := ⟨_, rfl⟩
  have lenM : fsM.length = 153 := by rw [efM]; exact fsG_len
  rw [← efM] at hP hD
  have gM_size : fsM[1]? = some (.int 0) := by rw [efM]; exact (fsG_at (by decide)).trans rfl
  have hP : va_P (dC, dI) cls_all [oc x0 11 ([.ref (hm 0), .int 0, .int 0, .int 0, .ref (hm 1), .ref (hm 14), .ref (hm 35), .ref (hm 40), .ref (hm 41), .ref (hm 50), .ref (hm 52)] : List Value), ic (hm 0) (km 0) 4000 (fun _ => 0), oc (hm 52) 4 ([.ref (hm 35), .ref (hm 14), .ref (hm 58), .ref (hm 53), .int 0, .ref (hm 54), .int 0, .ref (hm 55), .int 0, .int 0, .int 0, .int 0, .int 0, .int 0, .ref (hm 56), .int 0, .ref (hm 57), .int 0] : List Value), oc (hm 35) 0 ([.ref (hm 36), .ref (hm 37), .ref (hm 38), .int 0, .ref (hm 39), .int 0, .int (-1)] : List Value), ic (hm 39) (km 39) 7 (fun _ => 0), oc (hm 1) 8 ([.ref (hm 2), .ref (hm 3), .ref (hm 4), .ref (hm 5), .ref (hm 6), .ref (hm 7), .ref (hm 8), .ref (hm 9), .int 0, .null, .int 0, .ref (hm 10), .ref (hm 11), .ref (hm 12), .int 0, .ref (hm 13)] : List Value), ic (hm 10) (km 10) 4001 (fun _ => 0), ic (hm 11) (km 11) 4001 (fun _ => 0), ic (hm 2) (km 2) 4008 (fun _ => 0), ic (hm 3) (km 3) 4008 (fun _ => 0), ic (hm 4) (km 4) 4008 (fun _ => 0), ic (hm 5) (km 5) 4008 (fun _ => 0), ic (hm 6) (km 6) 4008 (fun _ => 0), ic (hm 7) (km 7) 4008 (fun _ => 0), ic (hm 8) (km 8) 4008 (fun _ => 0), ic (hm 9) (km 9) 4008 (fun _ => 0), oc (hm 40) 6 ([.ref (hm 1), .ref (hm 14), .ref (hm 35), .int 0, .int 0, .int 0, .int 0] : List Value), oc (hm 14) 3 ([.int 0, .ref (hm 15), .ref (hm 16), .ref (hm 17), .ref (hm 18), .ref (hm 19), .ref (hm 20), .ref (hm 21), .ref (hm 22), .ref (hm 23), .ref (hm 24), .ref (hm 25), .ref (hm 26), .ref (hm 27), .ref (hm 28), .ref (hm 29), .ref (hm 30), .ref (hm 31), .ref (hm 32), .ref (hm 33), .ref (hm 34)] : List Value), oc m0 12 fsM] H := hP
  have hD : va_D A [oc x0 11 ([.ref (hm 0), .int 0, .int 0, .int 0, .ref (hm 1), .ref (hm 14), .ref (hm 35), .ref (hm 40), .ref (hm 41), .ref (hm 50), .ref (hm 52)] : List Value), ic (hm 0) (km 0) 4000 (fun _ => 0), oc (hm 52) 4 ([.ref (hm 35), .ref (hm 14), .ref (hm 58), .ref (hm 53), .int 0, .ref (hm 54), .int 0, .ref (hm 55), .int 0, .int 0, .int 0, .int 0, .int 0, .int 0, .ref (hm 56), .int 0, .ref (hm 57), .int 0] : List Value), oc (hm 35) 0 ([.ref (hm 36), .ref (hm 37), .ref (hm 38), .int 0, .ref (hm 39), .int 0, .int (-1)] : List Value), ic (hm 39) (km 39) 7 (fun _ => 0), oc (hm 1) 8 ([.ref (hm 2), .ref (hm 3), .ref (hm 4), .ref (hm 5), .ref (hm 6), .ref (hm 7), .ref (hm 8), .ref (hm 9), .int 0, .null, .int 0, .ref (hm 10), .ref (hm 11), .ref (hm 12), .int 0, .ref (hm 13)] : List Value), ic (hm 10) (km 10) 4001 (fun _ => 0), ic (hm 11) (km 11) 4001 (fun _ => 0), ic (hm 2) (km 2) 4008 (fun _ => 0), ic (hm 3) (km 3) 4008 (fun _ => 0), ic (hm 4) (km 4) 4008 (fun _ => 0), ic (hm 5) (km 5) 4008 (fun _ => 0), ic (hm 6) (km 6) 4008 (fun _ => 0), ic (hm 7) (km 7) 4008 (fun _ => 0), ic (hm 8) (km 8) 4008 (fun _ => 0), ic (hm 9) (km 9) 4008 (fun _ => 0), oc (hm 40) 6 ([.ref (hm 1), .ref (hm 14), .ref (hm 35), .int 0, .int 0, .int 0, .int 0] : List Value), oc (hm 14) 3 ([.int 0, .ref (hm 15), .ref (hm 16), .ref (hm 17), .ref (hm 18), .ref (hm 19), .ref (hm 20), .ref (hm 21), .ref (hm 22), .ref (hm 23), .ref (hm 24), .ref (hm 25), .ref (hm 26), .ref (hm 27), .ref (hm 28), .ref (hm 29), .ref (hm 30), .ref (hm 31), .ref (hm 32), .ref (hm 33), .ref (hm 34)] : List Value), oc m0 12 fsM] := hD
  refine lv_aload_n hx hb d_law_182 rfl (lv_at hl 2 rfl) ?_
  have hPc := hP.sub (ws' := [oc x0 11 ([.ref (hm 0), .int 0, .int 0, .int 0, .ref (hm 1), .ref (hm 14), .ref (hm 35), .ref (hm 40), .ref (hm 41), .ref (hm 50), .ref (hm 52)] : List Value), ic (hm 0) (km 0) 4000 (fun _ => 0), oc (hm 52) 4 ([.ref (hm 35), .ref (hm 14), .ref (hm 58), .ref (hm 53), .int 0, .ref (hm 54), .int 0, .ref (hm 55), .int 0, .int 0, .int 0, .int 0, .int 0, .int 0, .ref (hm 56), .int 0, .ref (hm 57), .int 0] : List Value), oc (hm 35) 0 ([.ref (hm 36), .ref (hm 37), .ref (hm 38), .int 0, .ref (hm 39), .int 0, .int (-1)] : List Value), ic (hm 39) (km 39) 7 (fun _ => 0), oc (hm 1) 8 ([.ref (hm 2), .ref (hm 3), .ref (hm 4), .ref (hm 5), .ref (hm 6), .ref (hm 7), .ref (hm 8), .ref (hm 9), .int 0, .null, .int 0, .ref (hm 10), .ref (hm 11), .ref (hm 12), .int 0, .ref (hm 13)] : List Value), ic (hm 10) (km 10) 4001 (fun _ => 0), ic (hm 11) (km 11) 4001 (fun _ => 0), ic (hm 2) (km 2) 4008 (fun _ => 0), ic (hm 3) (km 3) 4008 (fun _ => 0), ic (hm 4) (km 4) 4008 (fun _ => 0), ic (hm 5) (km 5) 4008 (fun _ => 0), ic (hm 6) (km 6) 4008 (fun _ => 0), ic (hm 7) (km 7) 4008 (fun _ => 0), ic (hm 8) (km 8) 4008 (fun _ => 0), ic (hm 9) (km 9) 4008 (fun _ => 0), oc (hm 40) 6 ([.ref (hm 1), .ref (hm 14), .ref (hm 35), .int 0, .int 0, .int 0, .int 0] : List Value), oc (hm 14) 3 ([.int 0, .ref (hm 15), .ref (hm 16), .ref (hm 17), .ref (hm 18), .ref (hm 19), .ref (hm 20), .ref (hm 21), .ref (hm 22), .ref (hm 23), .ref (hm 24), .ref (hm 25), .ref (hm 26), .ref (hm 27), .ref (hm 28), .ref (hm 29), .ref (hm 30), .ref (hm 31), .ref (hm 32), .ref (hm 33), .ref (hm 34)] : List Value)]) [0, 1, 2, 3, 4, 5, 6, 7, 8, 9, 10, 11, 12, 13, 14, 15, 16, 17] rfl
  have hKc := hK.sub (tys' := [((km 0), .char), ((km 39), .int), ((km 10), .int), ((km 11), .int), ((km 2), .int), ((km 3), .int), ((km 4), .int), ((km 5), .int), ((km 6), .int), ((km 7), .int), ((km 8), .int), ((km 9), .int)]) [0, 1, 2, 3, 4, 5, 6, 7, 8, 9, 10, 11] rfl
  have hDc := hD.sub (ws' := [oc x0 11 ([.ref (hm 0), .int 0, .int 0, .int 0, .ref (hm 1), .ref (hm 14), .ref (hm 35), .ref (hm 40), .ref (hm 41), .ref (hm 50), .ref (hm 52)] : List Value), ic (hm 0) (km 0) 4000 (fun _ => 0), oc (hm 52) 4 ([.ref (hm 35), .ref (hm 14), .ref (hm 58), .ref (hm 53), .int 0, .ref (hm 54), .int 0, .ref (hm 55), .int 0, .int 0, .int 0, .int 0, .int 0, .int 0, .ref (hm 56), .int 0, .ref (hm 57), .int 0] : List Value), oc (hm 35) 0 ([.ref (hm 36), .ref (hm 37), .ref (hm 38), .int 0, .ref (hm 39), .int 0, .int (-1)] : List Value), ic (hm 39) (km 39) 7 (fun _ => 0), oc (hm 1) 8 ([.ref (hm 2), .ref (hm 3), .ref (hm 4), .ref (hm 5), .ref (hm 6), .ref (hm 7), .ref (hm 8), .ref (hm 9), .int 0, .null, .int 0, .ref (hm 10), .ref (hm 11), .ref (hm 12), .int 0, .ref (hm 13)] : List Value), ic (hm 10) (km 10) 4001 (fun _ => 0), ic (hm 11) (km 11) 4001 (fun _ => 0), ic (hm 2) (km 2) 4008 (fun _ => 0), ic (hm 3) (km 3) 4008 (fun _ => 0), ic (hm 4) (km 4) 4008 (fun _ => 0), ic (hm 5) (km 5) 4008 (fun _ => 0), ic (hm 6) (km 6) 4008 (fun _ => 0), ic (hm 7) (km 7) 4008 (fun _ => 0), ic (hm 8) (km 8) 4008 (fun _ => 0), ic (hm 9) (km 9) 4008 (fun _ => 0), oc (hm 40) 6 ([.ref (hm 1), .ref (hm 14), .ref (hm 35), .int 0, .int 0, .int 0, .int 0] : List Value), oc (hm 14) 3 ([.int 0, .ref (hm 15), .ref (hm 16), .ref (hm 17), .ref (hm 18), .ref (hm 19), .ref (hm 20), .ref (hm 21), .ref (hm 22), .ref (hm 23), .ref (hm 24), .ref (hm 25), .ref (hm 26), .ref (hm 27), .ref (hm 28), .ref (hm 29), .ref (hm 30), .ref (hm 31), .ref (hm 32), .ref (hm 33), .ref (hm 34)] : List Value)]) [0, 1, 2, 3, 4, 5, 6, 7, 8, 9, 10, 11, 12, 13, 14, 15, 16, 17] (by decide) rfl
  have hFc := va_free (wc := [oc x0 11 ([.ref (hm 0), .int 0, .int 0, .int 0, .ref (hm 1), .ref (hm 14), .ref (hm 35), .ref (hm 40), .ref (hm 41), .ref (hm 50), .ref (hm 52)] : List Value), ic (hm 0) (km 0) 4000 (fun _ => 0), oc (hm 52) 4 ([.ref (hm 35), .ref (hm 14), .ref (hm 58), .ref (hm 53), .int 0, .ref (hm 54), .int 0, .ref (hm 55), .int 0, .int 0, .int 0, .int 0, .int 0, .int 0, .ref (hm 56), .int 0, .ref (hm 57), .int 0] : List Value), oc (hm 35) 0 ([.ref (hm 36), .ref (hm 37), .ref (hm 38), .int 0, .ref (hm 39), .int 0, .int (-1)] : List Value), ic (hm 39) (km 39) 7 (fun _ => 0), oc (hm 1) 8 ([.ref (hm 2), .ref (hm 3), .ref (hm 4), .ref (hm 5), .ref (hm 6), .ref (hm 7), .ref (hm 8), .ref (hm 9), .int 0, .null, .int 0, .ref (hm 10), .ref (hm 11), .ref (hm 12), .int 0, .ref (hm 13)] : List Value), ic (hm 10) (km 10) 4001 (fun _ => 0), ic (hm 11) (km 11) 4001 (fun _ => 0), ic (hm 2) (km 2) 4008 (fun _ => 0), ic (hm 3) (km 3) 4008 (fun _ => 0), ic (hm 4) (km 4) 4008 (fun _ => 0), ic (hm 5) (km 5) 4008 (fun _ => 0), ic (hm 6) (km 6) 4008 (fun _ => 0), ic (hm 7) (km 7) 4008 (fun _ => 0), ic (hm 8) (km 8) 4008 (fun _ => 0), ic (hm 9) (km 9) 4008 (fun _ => 0), oc (hm 40) 6 ([.ref (hm 1), .ref (hm 14), .ref (hm 35), .int 0, .int 0, .int 0, .int 0] : List Value), oc (hm 14) 3 ([.int 0, .ref (hm 15), .ref (hm 16), .ref (hm 17), .ref (hm 18), .ref (hm 19), .ref (hm 20), .ref (hm 21), .ref (hm 22), .ref (hm 23), .ref (hm 24), .ref (hm 25), .ref (hm 26), .ref (hm 27), .ref (hm 28), .ref (hm 29), .ref (hm 30), .ref (hm 31), .ref (hm 32), .ref (hm 33), .ref (hm 34)] : List Value)]) hD hS hA [0, 1, 2, 3, 4, 5, 6, 7, 8, 9, 10, 11, 12, 13, 14, 15, 16, 17] rfl
  refine va_calli (va_runV (As := []) (rest := []) ⟨hx, hb, hml, hown, hT⟩ (c_House_build_0 l dC dI (sz := H.size) (h_this := x0) (h_text := (hm 0)) (h_machine := (hm 52)) (h_code := (hm 35)) (h_code_counts := (hm 39)) (h_source := (hm 1)) (h_source_tokenKind := (hm 10)) (h_source_tokenStart := (hm 11)) (h_source_kind := (hm 2)) (h_source_tok := (hm 3)) (h_source_next := (hm 4)) (h_source_peer := (hm 5)) (h_source_op := (hm 6)) (h_source_left := (hm 7)) (h_source_right := (hm 8)) (h_source_tail := (hm 9)) (h_parser := (hm 40)) (h_items := (hm 14)) (fs_this := ([.ref (hm 0), .int 0, .int 0, .int 0, .ref (hm 1), .ref (hm 14), .ref (hm 35), .ref (hm 40), .ref (hm 41), .ref (hm 50), .ref (hm 52)] : List Value)) (k_text := (km 0)) (f_text := (fun _ => 0)) (fs_machine := ([.ref (hm 35), .ref (hm 14), .ref (hm 58), .ref (hm 53), .int 0, .ref (hm 54), .int 0, .ref (hm 55), .int 0, .int 0, .int 0, .int 0, .int 0, .int 0, .ref (hm 56), .int 0, .ref (hm 57), .int 0] : List Value)) (v_machine_state := 0) (fs_code := ([.ref (hm 36), .ref (hm 37), .ref (hm 38), .int 0, .ref (hm 39), .int 0, .int (-1)] : List Value)) (k_code_counts := (km 39)) (f_code_counts := (fun _ => 0)) (fs_source := ([.ref (hm 2), .ref (hm 3), .ref (hm 4), .ref (hm 5), .ref (hm 6), .ref (hm 7), .ref (hm 8), .ref (hm 9), .int 0, .null, .int 0, .ref (hm 10), .ref (hm 11), .ref (hm 12), .int 0, .ref (hm 13)] : List Value)) (k_source_tokenKind := (km 10)) (f_source_tokenKind := (fun _ => 0)) (k_source_tokenStart := (km 11)) (f_source_tokenStart := (fun _ => 0)) (k_source_kind := (km 2)) (f_source_kind := (fun _ => 0)) (k_source_tok := (km 3)) (f_source_tok := (fun _ => 0)) (k_source_next := (km 4)) (f_source_next := (fun _ => 0)) (k_source_peer := (km 5)) (f_source_peer := (fun _ => 0)) (k_source_op := (km 6)) (f_source_op := (fun _ => 0)) (k_source_left := (km 7)) (f_source_left := (fun _ => 0)) (k_source_right := (km 8)) (f_source_right := (fun _ => 0)) (k_source_tail := (km 9)) (f_source_tail := (fun _ => 0)) (fs_parser := ([.ref (hm 1), .ref (hm 14), .ref (hm 35), .int 0, .int 0, .int 0, .int 0] : List Value)) (fs_items := ([.int 0, .ref (hm 15), .ref (hm 16), .ref (hm 17), .ref (hm 18), .ref (hm 19), .ref (hm 20), .ref (hm 21), .ref (hm 22), .ref (hm 23), .ref (hm 24), .ref (hm 25), .ref (hm 26), .ref (hm 27), .ref (hm 28), .ref (hm 29), .ref (hm 30), .ref (hm 31), .ref (hm 32), .ref (hm 33), .ref (hm 34)] : List Value)) (len_this := rfl) (g_this_length := rfl) (g_this_text := rfl) (g_this_machine := rfl) (g_this_code := rfl) (g_this_source := rfl) (g_this_parser := rfl) (g_this_items := rfl) (len_machine := rfl) (g_machine_state := rfl) (len_code := rfl) (g_code_counts := rfl) (len_source := rfl) (g_source_tokenKind := rfl) (g_source_tokenStart := rfl) (g_source_kind := rfl) (g_source_tok := rfl) (g_source_next := rfl) (g_source_peer := rfl) (g_source_op := rfl) (g_source_left := rfl) (g_source_right := rfl) (g_source_tail := rfl) (len_parser := rfl) (g_parser_source := rfl) (g_parser_items := rfl) (g_parser_code := rfl) (len_items := rfl)) (cwV 0 hT (gV ml_law_23 im_House_build se_House_build ini_House co_House_build) rfl rfl rfl (by decide +kernel) ⟨Nat.le_of_ble_eq_true rfl, Nat.le_of_ble_eq_true rfl⟩) ⟨fbQ, va_recv hKc hPc (ci := 11) (q0 := 0) rfl rfl, fun U hU hW => ⟨rfl, by rw [hU], by rw [hU]; exact hPc, va_K.moved hW.alike hKc, hDc.weaken (fun _ _ _ _ => trivial)⟩⟩ rfl rfl hl.1 rfl (lv_room (Nat.le_of_ble_eq_true rfl)) d_law_183 ⟨Nat.le_of_ble_eq_true rfl, Nat.le_of_ble_eq_true rfl⟩) hS (fun q _ h => hFc q h) hFc (fun r1 u t H1 locs ht hvm hw hB hz1 hk1 hS => ?_)
  subst hw
  obtain ⟨fs_this_1, fs_machine_1, fs_code_1, f_code_counts_1, fs_source_1, f_source_tokenKind_1, f_source_tokenStart_1, f_source_kind_1, f_source_tok_1, f_source_next_1, f_source_peer_1, f_source_op_1, f_source_left_1, f_source_right_1, f_source_tail_1, fs_parser_1, fs_items_1, ⟨hw1_0, hw1_1, hw1_2, hw1_3, hw1_4, hw1_5, hw1_6, hw1_7, hw1_8, hw1_9, hw1_10, hw1_11, hw1_12, hw1_13, hw1_14, hw1_15, hw1_16, hw1_17, hw1_18, hw1_19, hw1_20, hw1_21, hw1_22, hw1_23, hw1_24, hw1_25, hw1_26, hw1_27, hw1_28, hw1_29, hw1_30, hw1_31, hw1_32, hw1_33, hw1_34, hw1_35, hw1_36, hw1_37⟩, hP1, hK1, hD1⟩ := hB
  rw [ht] at hP1
  have hK1 := va_K.moved hvm.symm hK1
  obtain ⟨hP, hD⟩ := va_join (wr := [oc m0 12 fsM]) (w1 := [oc x0 11 fs_this_1, ic (hm 0) (km 0) 4000 (fun _ => 0), oc (hm 52) 4 fs_machine_1, oc (hm 35) 0 fs_code_1, ic (hm 39) (km 39) 7 f_code_counts_1, oc (hm 1) 8 fs_source_1, ic (hm 10) (km 10) 4001 f_source_tokenKind_1, ic (hm 11) (km 11) 4001 f_source_tokenStart_1, ic (hm 2) (km 2) 4008 f_source_kind_1, ic (hm 3) (km 3) 4008 f_source_tok_1, ic (hm 4) (km 4) 4008 f_source_next_1, ic (hm 5) (km 5) 4008 f_source_peer_1, ic (hm 6) (km 6) 4008 f_source_op_1, ic (hm 7) (km 7) 4008 f_source_left_1, ic (hm 8) (km 8) 4008 f_source_right_1, ic (hm 9) (km 9) 4008 f_source_tail_1, oc (hm 40) 6 fs_parser_1, oc (hm 14) 3 fs_items_1]) hP hD [0, 1, 2, 3, 4, 5, 6, 7, 8, 9, 10, 11, 12, 13, 14, 15, 16, 17] [18] rfl rfl (by decide) (by decide) hk1 hFc hP1 hD1
  generalize H1 = H at hP hS ⊢
  have hP : va_P (dC, dI) cls_all [oc m0 12 fsM, oc x0 11 fs_this_1, ic (hm 0) (km 0) 4000 (fun _ => 0), oc (hm 52) 4 fs_machine_1, oc (hm 35) 0 fs_code_1, ic (hm 39) (km 39) 7 f_code_counts_1, oc (hm 1) 8 fs_source_1, ic (hm 10) (km 10) 4001 f_source_tokenKind_1, ic (hm 11) (km 11) 4001 f_source_tokenStart_1, ic (hm 2) (km 2) 4008 f_source_kind_1, ic (hm 3) (km 3) 4008 f_source_tok_1, ic (hm 4) (km 4) 4008 f_source_next_1, ic (hm 5) (km 5) 4008 f_source_peer_1, ic (hm 6) (km 6) 4008 f_source_op_1, ic (hm 7) (km 7) 4008 f_source_left_1, ic (hm 8) (km 8) 4008 f_source_right_1, ic (hm 9) (km 9) 4008 f_source_tail_1, oc (hm 40) 6 fs_parser_1, oc (hm 14) 3 fs_items_1] H := hP
  have hD : va_D A [oc m0 12 fsM, oc x0 11 fs_this_1, ic (hm 0) (km 0) 4000 (fun _ => 0), oc (hm 52) 4 fs_machine_1, oc (hm 35) 0 fs_code_1, ic (hm 39) (km 39) 7 f_code_counts_1, oc (hm 1) 8 fs_source_1, ic (hm 10) (km 10) 4001 f_source_tokenKind_1, ic (hm 11) (km 11) 4001 f_source_tokenStart_1, ic (hm 2) (km 2) 4008 f_source_kind_1, ic (hm 3) (km 3) 4008 f_source_tok_1, ic (hm 4) (km 4) 4008 f_source_next_1, ic (hm 5) (km 5) 4008 f_source_peer_1, ic (hm 6) (km 6) 4008 f_source_op_1, ic (hm 7) (km 7) 4008 f_source_left_1, ic (hm 8) (km 8) 4008 f_source_right_1, ic (hm 9) (km 9) 4008 f_source_tail_1, oc (hm 40) 6 fs_parser_1, oc (hm 14) 3 fs_items_1] := hD
  refine lv_aload_n hx hb d_law_186 rfl (lv_at hl 1 rfl) ?_
  have hPc := hP.sub (ws' := [oc m0 12 fsM]) [0] rfl
  have hKc := hK.sub (tys' := []) [] rfl
  have hDc := hD.sub (ws' := [oc m0 12 fsM]) [0] (by decide) rfl
  have hFc := va_free (wc := [oc m0 12 fsM]) hD hS hA [0] rfl
  refine va_calli (va_runV (As := []) (rest := [.int r1]) ⟨hx, hb, hml, hown, hT⟩ (c_Model_build_0 l dC dI (sz := H.size) (ad := ad) (av := av) (h_this := m0) (fs_this := fsM) (len_this := (by first | exact lenM | (simp only [List.length_set]; exact lenM))) (g_this_size := gM_size)) (cwV 0 hT (gV ml_law_27 im_Model_build se_Model_build ini_Model co_Model_build) rfl rfl rfl (by decide +kernel) ⟨Nat.le_of_ble_eq_true rfl, Nat.le_of_ble_eq_true rfl⟩) ⟨fbQe, va_recv hKc hPc (ci := 12) (q0 := 0) rfl rfl, fun U hU hW => ⟨rfl, by rw [hU], by rw [hU]; exact hPc, va_K.moved hW.alike hKc, hDc.weaken (fun _ _ _ _ => trivial), env0.hand henv hS hU hW hFc⟩⟩ rfl rfl hl.1 rfl (lv_room (Nat.le_of_ble_eq_true rfl)) d_law_187 ⟨Nat.le_of_ble_eq_true rfl, Nat.le_of_ble_eq_true rfl⟩) hS (fun q _ h => hFc q h) hFc (fun r2 u t H1 locs ht hvm hw hB hz1 hk1 hS => ?_)
  subst hw
  obtain ⟨fs_this_2, ⟨hw2_0, hw2_1, hw2_2, hw2_3, hw2_4, hw2_5, hw2_6, hw2_7, hw2_8, hw2_9, hw2_10, hw2_11, hw2_12, hw2_13, hw2_14, hw2_15, hw2_16, hw2_17, hw2_18, hw2_19, hw2_20, hw2_21, hw2_22, hw2_23, hw2_24, hw2_25, hw2_26, hw2_27, hw2_28, hw2_29, hw2_30, hw2_31, hw2_32, hw2_33, hw2_34, hw2_35⟩, hP1, hK1, hD1⟩ := hB
  rw [ht] at hP1
  have hK1 := va_K.moved hvm.symm hK1
  obtain ⟨hP, hD⟩ := va_join (wr := [oc x0 11 fs_this_1, ic (hm 0) (km 0) 4000 (fun _ => 0), oc (hm 52) 4 fs_machine_1, oc (hm 35) 0 fs_code_1, ic (hm 39) (km 39) 7 f_code_counts_1, oc (hm 1) 8 fs_source_1, ic (hm 10) (km 10) 4001 f_source_tokenKind_1, ic (hm 11) (km 11) 4001 f_source_tokenStart_1, ic (hm 2) (km 2) 4008 f_source_kind_1, ic (hm 3) (km 3) 4008 f_source_tok_1, ic (hm 4) (km 4) 4008 f_source_next_1, ic (hm 5) (km 5) 4008 f_source_peer_1, ic (hm 6) (km 6) 4008 f_source_op_1, ic (hm 7) (km 7) 4008 f_source_left_1, ic (hm 8) (km 8) 4008 f_source_right_1, ic (hm 9) (km 9) 4008 f_source_tail_1, oc (hm 40) 6 fs_parser_1, oc (hm 14) 3 fs_items_1]) (w1 := [oc m0 12 fs_this_2]) hP hD [0] [1, 2, 3, 4, 5, 6, 7, 8, 9, 10, 11, 12, 13, 14, 15, 16, 17, 18] rfl rfl (by decide) (by decide) hk1 hFc hP1 hD1
  generalize H1 = H at hP hS ⊢
  have hP : va_P (dC, dI) cls_all [oc x0 11 fs_this_1, ic (hm 0) (km 0) 4000 (fun _ => 0), oc (hm 52) 4 fs_machine_1, oc (hm 35) 0 fs_code_1, ic (hm 39) (km 39) 7 f_code_counts_1, oc (hm 1) 8 fs_source_1, ic (hm 10) (km 10) 4001 f_source_tokenKind_1, ic (hm 11) (km 11) 4001 f_source_tokenStart_1, ic (hm 2) (km 2) 4008 f_source_kind_1, ic (hm 3) (km 3) 4008 f_source_tok_1, ic (hm 4) (km 4) 4008 f_source_next_1, ic (hm 5) (km 5) 4008 f_source_peer_1, ic (hm 6) (km 6) 4008 f_source_op_1, ic (hm 7) (km 7) 4008 f_source_left_1, ic (hm 8) (km 8) 4008 f_source_right_1, ic (hm 9) (km 9) 4008 f_source_tail_1, oc (hm 40) 6 fs_parser_1, oc (hm 14) 3 fs_items_1, oc m0 12 fs_this_2] H := hP
  have hD : va_D A [oc x0 11 fs_this_1, ic (hm 0) (km 0) 4000 (fun _ => 0), oc (hm 52) 4 fs_machine_1, oc (hm 35) 0 fs_code_1, ic (hm 39) (km 39) 7 f_code_counts_1, oc (hm 1) 8 fs_source_1, ic (hm 10) (km 10) 4001 f_source_tokenKind_1, ic (hm 11) (km 11) 4001 f_source_tokenStart_1, ic (hm 2) (km 2) 4008 f_source_kind_1, ic (hm 3) (km 3) 4008 f_source_tok_1, ic (hm 4) (km 4) 4008 f_source_next_1, ic (hm 5) (km 5) 4008 f_source_peer_1, ic (hm 6) (km 6) 4008 f_source_op_1, ic (hm 7) (km 7) 4008 f_source_left_1, ic (hm 8) (km 8) 4008 f_source_right_1, ic (hm 9) (km 9) 4008 f_source_tail_1, oc (hm 40) 6 fs_parser_1, oc (hm 14) 3 fs_items_1, oc m0 12 fs_this_2] := hD
  have hq : r1 = r2 := hw1_37.trans hw2_35.symm
  refine lv_icmp_eq (tgt := 422) hx hb d_law_190 (by decide) (fun c3 => ?_) (fun c3 => absurd hq c3)
  exact kk _ _ _ hS (lv_sub hl [0, 1, 2, 3] rfl)
set_option maxHeartbeats 4000000 in
set_option maxRecDepth 100000 in
theorem law_c3 {p : Program} {e : Env} {s : State} {m : MethodId} {below : List Frame} {meth : Method} {c : Code} (l : Launch) {b L : Nat} {xs : Nat → Int32} {A : Nat → Prop} {ad av : Nat → Nat} {dC : Nat → ClassId} {dI : Nat → Nat → Nat} {Q : State → Prop} {H : Heap} {locs : List Loc} {ls : Array Slot} {i x0 m0 : Nat} {hm : Nat → Nat} {km : Nat → ClassId} {hm2 : Nat → Nat} {km2 : Nat → ClassId} (hx : p.tables.exec = Jvm.exec) (hb : c.code = code) (hml : c.maxLocals = 4) (hown : s.vm.findClass R_law = some m.cls) (hT : ∀ w ∈ lw_good, w.before #[Value.ref b] s = true) (hnw : nw_all s) (henv : env0 ad av A s s.heap) (hX : va_X b L xs s s.heap) (hbl : b < s.heap.size) (hbA : ¬ A b) (hL : L ≤ 3072) (hi : i + 6 ≤ L) (hA : ∀ q : Nat, s.heap.size ≤ q → A q) (hK : va_K (dC, dI) cls_all (tyH km ++ tysG mo_tt 99 km2) s) (hP : va_P (dC, dI) cls_all (wH hm km x0 ++ at_mo0 hm2 km2 m0) H) (hD : va_D A (wH hm km x0 ++ at_mo0 hm2 km2 m0)) (hS : va_S A s.heap H locs) (hl : lv_has ls 4 [(3, .int (nI i)), (2, .ref m0), (1, .ref x0), (0, .ref b)]) (kk : ∀ (H : Heap) (locs : List Loc) (ls : Array Slot), va_S A s.heap H locs → lv_has ls 4 [(3, .int (nI i)), (2, .ref m0), (1, .ref x0), (0, .ref b)] → W p l e room_1 s m #[Value.ref b] below meth c H locs 246 442275 Q (F0 m 422 ls [])) : W p l e room_1 s m #[Value.ref b] below meth c H locs 246 442275 Q (F0 m 195 ls []) := by
  have hP := hP.sub (ws' := [oc x0 11 ([.ref (hm 0), .int 0, .int 0, .int 0, .ref (hm 1), .ref (hm 14), .ref (hm 35), .ref (hm 40), .ref (hm 41), .ref (hm 50), .ref (hm 52)] : List Value), oc (hm 35) 0 ([.ref (hm 36), .ref (hm 37), .ref (hm 38), .int 0, .ref (hm 39), .int 0, .int (-1)] : List Value), oc m0 12 (fsG 153 mo_kd mo_ord 99 hm2 (va_up (va_up (fun _ => 0) 8 (-1)) 1 0) (fun _ => 0))]) [0, 36, 68] rfl
  have hD := hD.sub (ws' := [oc x0 11 ([.ref (hm 0), .int 0, .int 0, .int 0, .ref (hm 1), .ref (hm 14), .ref (hm 35), .ref (hm 40), .ref (hm 41), .ref (hm 50), .ref (hm 52)] : List Value), oc (hm 35) 0 ([.ref (hm 36), .ref (hm 37), .ref (hm 38), .int 0, .ref (hm 39), .int 0, .int (-1)] : List Value), oc m0 12 (fsG 153 mo_kd mo_ord 99 hm2 (va_up (va_up (fun _ => 0) 8 (-1)) 1 0) (fun _ => 0))]) [0, 36, 68] (by decide) rfl
  have hK := hK.sub (tys' := []) [] rfl
  obtain ⟨fsM, efM⟩ : ∃ z, z = (fsG 153 mo_kd mo_ord 99 hm2 (va_up (va_up (fun _ => 0) 8 (-1)) 1 0) (fun _ => 0)) := ⟨_, rfl⟩
  have lenM : fsM.length = 153 := by rw [efM]; exact fsG_len
  rw [← efM] at hP hD
  have gM_tried : fsM[9]? = some (.int 0) := by rw [efM]; exact (fsG_at (by decide)).trans rfl
  have gM_fault : fsM[7]? = some (.int 0) := by rw [efM]; exact (fsG_at (by decide)).trans rfl
  have gM_faultPlace : fsM[8]? = some (.int (-1)) := by rw [efM]; exact (fsG_at (by decide)).trans rfl
  have hP : va_P (dC, dI) cls_all [oc x0 11 ([.ref (hm 0), .int 0, .int 0, .int 0, .ref (hm 1), .ref (hm 14), .ref (hm 35), .ref (hm 40), .ref (hm 41), .ref (hm 50), .ref (hm 52)] : List Value), oc (hm 35) 0 ([.ref (hm 36), .ref (hm 37), .ref (hm 38), .int 0, .ref (hm 39), .int 0, .int (-1)] : List Value), oc m0 12 fsM] H := hP
  have hD : va_D A [oc x0 11 ([.ref (hm 0), .int 0, .int 0, .int 0, .ref (hm 1), .ref (hm 14), .ref (hm 35), .ref (hm 40), .ref (hm 41), .ref (hm 50), .ref (hm 52)] : List Value), oc (hm 35) 0 ([.ref (hm 36), .ref (hm 37), .ref (hm 38), .int 0, .ref (hm 39), .int 0, .int (-1)] : List Value), oc m0 12 fsM] := hD
  refine lv_aload_n hx hb d_law_195 rfl (lv_at hl 2 rfl) ?_
  refine lv_aload_n hx hb d_law_196 rfl (lv_at hl 3 rfl) ?_
  refine lv_iload_n hx hb d_law_197 rfl (lv_at hl 0 rfl) ?_
  refine lv_iconst (v := 1) hx hb d_law_198 (by decide) ?_
  refine lv_iadd hx hb d_law_199 ?_
  refine lv_topi (fun x1 e1 => ?_)
  obtain rfl : x1 = nI ((i) + 1) := e1.trans (nI_add (i) 1)
  refine va_sld hx hb hX hbl hbA hS (vp_in_nI (by omega) (by omega)) d_law_200 ?_
  refine lv_topi (fun x2 e2 => ?_)
  obtain rfl : x2 = xs ((i) + 1) := e2.trans (congrArg xs (nI_clamp (by omega)))
  have hPc := hP.sub (ws' := [oc x0 11 ([.ref (hm 0), .int 0, .int 0, .int 0, .ref (hm 1), .ref (hm 14), .ref (hm 35), .ref (hm 40), .ref (hm 41), .ref (hm 50), .ref (hm 52)] : List Value), oc (hm 35) 0 ([.ref (hm 36), .ref (hm 37), .ref (hm 38), .int 0, .ref (hm 39), .int 0, .int (-1)] : List Value)]) [0, 1] rfl
  have hKc := hK.sub (tys' := []) [] rfl
  refine vp_callSi (va_Run.run (va_runV (As := [.int (xs ((i) + 1))]) (rest := []) ⟨hx, hb, hml, hown, hT⟩ (c_House_fault l dC dI (h_this := x0) (h_code := (hm 35)) (fs_this := ([.ref (hm 0), .int 0, .int 0, .int 0, .ref (hm 1), .ref (hm 14), .ref (hm 35), .ref (hm 40), .ref (hm 41), .ref (hm 50), .ref (hm 52)] : List Value)) (v_this_built := 0) (fs_code := ([.ref (hm 36), .ref (hm 37), .ref (hm 38), .int 0, .ref (hm 39), .int 0, .int (-1)] : List Value)) (v_code_faultKind := 0) (v_code_faultPlace := -1) (p1 := (xs ((i) + 1))) (len_this := rfl) (g_this_built := rfl) (g_this_code := rfl) (len_code := rfl) (g_code_faultKind := rfl) (g_code_faultPlace := rfl)) (cwV 1 hT (gV ml_law_28 im_House_fault se_House_fault ini_House co_House_fault) rfl rfl rfl (by decide +kernel) ⟨Nat.le_of_ble_eq_true rfl, Nat.le_of_ble_eq_true rfl⟩) ⟨fbS, va_recv hKc hPc (ci := 11) (q0 := 0) rfl rfl, fun U hU hW => ⟨rfl, by rw [hU]; exact hPc, va_K.moved hW.alike hKc⟩⟩ rfl rfl hl.1 rfl (lv_room (Nat.le_of_ble_eq_true rfl)) d_law_201 ⟨Nat.le_of_ble_eq_true rfl, Nat.le_of_ble_eq_true rfl⟩)) (fun r3 hr3 => ?_)
  refine lv_aload_n hx hb d_law_204 rfl (lv_at hl 1 rfl) ?_
  refine lv_aload_n hx hb d_law_205 rfl (lv_at hl 3 rfl) ?_
  refine lv_iload_n hx hb d_law_206 rfl (lv_at hl 0 rfl) ?_
  refine lv_iconst (v := 1) hx hb d_law_207 (by decide) ?_
  refine lv_iadd hx hb d_law_208 ?_
  refine lv_topi (fun x4 e4 => ?_)
  obtain rfl : x4 = nI ((i) + 1) := e4.trans (nI_add (i) 1)
  refine va_sld hx hb hX hbl hbA hS (vp_in_nI (by omega) (by omega)) d_law_209 ?_
  refine lv_topi (fun x5 e5 => ?_)
  obtain rfl : x5 = xs ((i) + 1) := e5.trans (congrArg xs (nI_clamp (by omega)))
  have hPc := hP.sub (ws' := [oc m0 12 fsM]) [2] rfl
  have hKc := hK.sub (tys' := []) [] rfl
  refine vp_callSi (va_Run.run (va_runV (As := [.int (xs ((i) + 1))]) (rest := [.int r3]) ⟨hx, hb, hml, hown, hT⟩ (c_Model_fault l dC dI (h_this := m0) (fs_this := fsM) (v_this_tried := 0) (v_this_fault := 0) (v_this_faultPlace := (-1)) (p1 := (xs ((i) + 1))) (len_this := (by first | exact lenM | (simp only [List.length_set]; exact lenM))) (g_this_tried := gM_tried) (g_this_fault := gM_fault) (g_this_faultPlace := gM_faultPlace)) (cwV 1 hT (gV ml_law_31 im_Model_fault se_Model_fault ini_Model co_Model_fault) rfl rfl rfl (by decide +kernel) ⟨Nat.le_of_ble_eq_true rfl, Nat.le_of_ble_eq_true rfl⟩) ⟨fbS, va_recv hKc hPc (ci := 12) (q0 := 0) rfl rfl, fun U hU hW => ⟨rfl, by rw [hU]; exact hPc, va_K.moved hW.alike hKc⟩⟩ rfl rfl hl.1 rfl (lv_room (Nat.le_of_ble_eq_true rfl)) d_law_210 ⟨Nat.le_of_ble_eq_true rfl, Nat.le_of_ble_eq_true rfl⟩)) (fun r6 hr6 => ?_)
  have hq : r3 = r6 := (hr3.trans (if_pos (Or.inl rfl))).trans (hr6.trans (if_pos (Or.inl rfl))).symm
  refine lv_icmp_eq (tgt := 422) hx hb d_law_213 (by decide) (fun c7 => ?_) (fun c7 => absurd hq c7)
  exact kk _ _ _ hS (lv_sub hl [0, 1, 2, 3] rfl)
set_option maxHeartbeats 4000000 in
set_option maxRecDepth 100000 in
theorem law_c4 {p : Program} {e : Env} {s : State} {m : MethodId} {below : List Frame} {meth : Method} {c : Code} (l : Launch) {b L : Nat} {xs : Nat → Int32} {A : Nat → Prop} {ad av : Nat → Nat} {dC : Nat → ClassId} {dI : Nat → Nat → Nat} {Q : State → Prop} {H : Heap} {locs : List Loc} {ls : Array Slot} {i x0 m0 : Nat} {hm : Nat → Nat} {km : Nat → ClassId} {hm2 : Nat → Nat} {km2 : Nat → ClassId} (hx : p.tables.exec = Jvm.exec) (hb : c.code = code) (hml : c.maxLocals = 4) (hown : s.vm.findClass R_law = some m.cls) (hT : ∀ w ∈ lw_good, w.before #[Value.ref b] s = true) (hnw : nw_all s) (henv : env0 ad av A s s.heap) (hX : va_X b L xs s s.heap) (hbl : b < s.heap.size) (hbA : ¬ A b) (hL : L ≤ 3072) (hi : i + 6 ≤ L) (hA : ∀ q : Nat, s.heap.size ≤ q → A q) (hK : va_K (dC, dI) cls_all (tyH km ++ tysG mo_tt 99 km2) s) (hP : va_P (dC, dI) cls_all (wH hm km x0 ++ at_mo0 hm2 km2 m0) H) (hD : va_D A (wH hm km x0 ++ at_mo0 hm2 km2 m0)) (hS : va_S A s.heap H locs) (hl : lv_has ls 4 [(3, .int (nI i)), (2, .ref m0), (1, .ref x0), (0, .ref b)]) (kk : ∀ (H : Heap) (locs : List Loc) (ls : Array Slot), va_S A s.heap H locs → lv_has ls 4 [(3, .int (nI i)), (2, .ref m0), (1, .ref x0), (0, .ref b)] → W p l e room_1 s m #[Value.ref b] below meth c H locs 246 442275 Q (F0 m 422 ls [])) : W p l e room_1 s m #[Value.ref b] below meth c H locs 246 442275 Q (F0 m 218 ls []) := by
  have hP := hP.sub (ws' := [oc x0 11 ([.ref (hm 0), .int 0, .int 0, .int 0, .ref (hm 1), .ref (hm 14), .ref (hm 35), .ref (hm 40), .ref (hm 41), .ref (hm 50), .ref (hm 52)] : List Value), oc (hm 35) 0 ([.ref (hm 36), .ref (hm 37), .ref (hm 38), .int 0, .ref (hm 39), .int 0, .int (-1)] : List Value), ic (hm 39) (km 39) 7 (fun _ => 0), oc m0 12 (fsG 153 mo_kd mo_ord 99 hm2 (va_up (va_up (fun _ => 0) 8 (-1)) 1 0) (fun _ => 0))]) [0, 36, 40, 68] rfl
  have hD := hD.sub (ws' := [oc x0 11 ([.ref (hm 0), .int 0, .int 0, .int 0, .ref (hm 1), .ref (hm 14), .ref (hm 35), .ref (hm 40), .ref (hm 41), .ref (hm 50), .ref (hm 52)] : List Value), oc (hm 35) 0 ([.ref (hm 36), .ref (hm 37), .ref (hm 38), .int 0, .ref (hm 39), .int 0, .int (-1)] : List Value), ic (hm 39) (km 39) 7 (fun _ => 0), oc m0 12 (fsG 153 mo_kd mo_ord 99 hm2 (va_up (va_up (fun _ => 0) 8 (-1)) 1 0) (fun _ => 0))]) [0, 36, 40, 68] (by decide) rfl
  have hK := hK.sub (tys' := [((km 39), .int)]) [36] rfl
  obtain ⟨fsM, efM⟩ : ∃ z, z = (fsG 153 mo_kd mo_ord 99 hm2 (va_up (va_up (fun _ => 0) 8 (-1)) 1 0) (fun _ => 0)) := ⟨_, rfl⟩
  have lenM : fsM.length = 153 := by rw [efM]; exact fsG_len
  rw [← efM] at hP hD
  have gM_hasProgram : fsM[10]? = some (.int 0) := by rw [efM]; exact (fsG_at (by decide)).trans rfl
  have hP : va_P (dC, dI) cls_all [oc x0 11 ([.ref (hm 0), .int 0, .int 0, .int 0, .ref (hm 1), .ref (hm 14), .ref (hm 35), .ref (hm 40), .ref (hm 41), .ref (hm 50), .ref (hm 52)] : List Value), oc (hm 35) 0 ([.ref (hm 36), .ref (hm 37), .ref (hm 38), .int 0, .ref (hm 39), .int 0, .int (-1)] : List Value), ic (hm 39) (km 39) 7 (fun _ => 0), oc m0 12 fsM] H := hP
  have hD : va_D A [oc x0 11 ([.ref (hm 0), .int 0, .int 0, .int 0, .ref (hm 1), .ref (hm 14), .ref (hm 35), .ref (hm 40), .ref (hm 41), .ref (hm 50), .ref (hm 52)] : List Value), oc (hm 35) 0 ([.ref (hm 36), .ref (hm 37), .ref (hm 38), .int 0, .ref (hm 39), .int 0, .int (-1)] : List Value), ic (hm 39) (km 39) 7 (fun _ => 0), oc m0 12 fsM] := hD
  refine lv_aload_n hx hb d_law_218 rfl (lv_at hl 2 rfl) ?_
  refine lv_aload_n hx hb d_law_219 rfl (lv_at hl 3 rfl) ?_
  refine lv_iload_n hx hb d_law_220 rfl (lv_at hl 0 rfl) ?_
  refine lv_iconst (v := 1) hx hb d_law_221 (by decide) ?_
  refine lv_iadd hx hb d_law_222 ?_
  refine lv_topi (fun x1 e1 => ?_)
  obtain rfl : x1 = nI ((i) + 1) := e1.trans (nI_add (i) 1)
  refine va_sld hx hb hX hbl hbA hS (vp_in_nI (by omega) (by omega)) d_law_223 ?_
  refine lv_topi (fun x2 e2 => ?_)
  obtain rfl : x2 = xs ((i) + 1) := e2.trans (congrArg xs (nI_clamp (by omega)))
  have hPc := hP.sub (ws' := [oc x0 11 ([.ref (hm 0), .int 0, .int 0, .int 0, .ref (hm 1), .ref (hm 14), .ref (hm 35), .ref (hm 40), .ref (hm 41), .ref (hm 50), .ref (hm 52)] : List Value), oc (hm 35) 0 ([.ref (hm 36), .ref (hm 37), .ref (hm 38), .int 0, .ref (hm 39), .int 0, .int (-1)] : List Value), ic (hm 39) (km 39) 7 (fun _ => 0)]) [0, 1, 2] rfl
  have hKc := hK.sub (tys' := [((km 39), .int)]) [0] rfl
  refine vp_callSi (va_Run.run (va_runV (As := [.int (xs ((i) + 1))]) (rest := []) ⟨hx, hb, hml, hown, hT⟩ (c_House_program l dC dI (h_this := x0) (h_code := (hm 35)) (h_code_counts := (hm 39)) (fs_this := ([.ref (hm 0), .int 0, .int 0, .int 0, .ref (hm 1), .ref (hm 14), .ref (hm 35), .ref (hm 40), .ref (hm 41), .ref (hm 50), .ref (hm 52)] : List Value)) (v_this_ready := 0) (fs_code := ([.ref (hm 36), .ref (hm 37), .ref (hm 38), .int 0, .ref (hm 39), .int 0, .int (-1)] : List Value)) (k_code_counts := (km 39)) (f_code_counts := (fun _ => 0)) (p1 := (xs ((i) + 1))) (len_this := rfl) (g_this_ready := rfl) (g_this_code := rfl) (len_code := rfl) (g_code_counts := rfl)) (cwV 1 hT (gV ml_law_32 im_House_program se_House_program ini_House co_House_program) rfl rfl rfl (by decide +kernel) ⟨Nat.le_of_ble_eq_true rfl, Nat.le_of_ble_eq_true rfl⟩) ⟨fbS, va_recv hKc hPc (ci := 11) (q0 := 0) rfl rfl, fun U hU hW => ⟨rfl, by rw [hU]; exact hPc, va_K.moved hW.alike hKc⟩⟩ rfl rfl hl.1 rfl (lv_room (Nat.le_of_ble_eq_true rfl)) d_law_224 ⟨Nat.le_of_ble_eq_true rfl, Nat.le_of_ble_eq_true rfl⟩)) (fun r3 hr3 => ?_)
  refine lv_aload_n hx hb d_law_227 rfl (lv_at hl 1 rfl) ?_
  refine lv_aload_n hx hb d_law_228 rfl (lv_at hl 3 rfl) ?_
  refine lv_iload_n hx hb d_law_229 rfl (lv_at hl 0 rfl) ?_
  refine lv_iconst (v := 1) hx hb d_law_230 (by decide) ?_
  refine lv_iadd hx hb d_law_231 ?_
  refine lv_topi (fun x4 e4 => ?_)
  obtain rfl : x4 = nI ((i) + 1) := e4.trans (nI_add (i) 1)
  refine va_sld hx hb hX hbl hbA hS (vp_in_nI (by omega) (by omega)) d_law_232 ?_
  refine lv_topi (fun x5 e5 => ?_)
  obtain rfl : x5 = xs ((i) + 1) := e5.trans (congrArg xs (nI_clamp (by omega)))
  have hPc := hP.sub (ws' := [oc m0 12 fsM]) [3] rfl
  have hKc := hK.sub (tys' := []) [] rfl
  refine vp_callSi (va_Run.run (va_runV (As := [.int (xs ((i) + 1))]) (rest := [.int r3]) ⟨hx, hb, hml, hown, hT⟩ (c_Model_program_no l dC dI (h_this := m0) (fs_this := fsM) (p1 := (xs ((i) + 1))) (len_this := (by first | exact lenM | (simp only [List.length_set]; exact lenM))) (g_this_hasProgram := gM_hasProgram)) (cwV 1 hT (gV ml_law_35 im_Model_program_I se_Model_program_I ini_Model co_Model_program_I) rfl rfl rfl (by decide +kernel) ⟨Nat.le_of_ble_eq_true rfl, Nat.le_of_ble_eq_true rfl⟩) ⟨fbS, va_recv hKc hPc (ci := 12) (q0 := 0) rfl rfl, fun U hU hW => ⟨rfl, by rw [hU]; exact hPc, va_K.moved hW.alike hKc⟩⟩ rfl rfl hl.1 rfl (lv_room (Nat.le_of_ble_eq_true rfl)) d_law_233 ⟨Nat.le_of_ble_eq_true rfl, Nat.le_of_ble_eq_true rfl⟩)) (fun r6 hr6 => ?_)
  have hq : r3 = r6 := (hr3.trans (if_pos (Or.inl rfl))).trans hr6.symm
  refine lv_icmp_eq (tgt := 422) hx hb d_law_236 (by decide) (fun c7 => ?_) (fun c7 => absurd hq c7)
  exact kk _ _ _ hS (lv_sub hl [0, 1, 2, 3] rfl)
set_option maxHeartbeats 4000000 in
set_option maxRecDepth 100000 in
theorem law_c5 {p : Program} {e : Env} {s : State} {m : MethodId} {below : List Frame} {meth : Method} {c : Code} (l : Launch) {b L : Nat} {xs : Nat → Int32} {A : Nat → Prop} {ad av : Nat → Nat} {dC : Nat → ClassId} {dI : Nat → Nat → Nat} {Q : State → Prop} {H : Heap} {locs : List Loc} {ls : Array Slot} {i x0 m0 : Nat} {hm : Nat → Nat} {km : Nat → ClassId} {hm2 : Nat → Nat} {km2 : Nat → ClassId} (hx : p.tables.exec = Jvm.exec) (hb : c.code = code) (hml : c.maxLocals = 4) (hown : s.vm.findClass R_law = some m.cls) (hT : ∀ w ∈ lw_good, w.before #[Value.ref b] s = true) (hnw : nw_all s) (henv : env0 ad av A s s.heap) (hX : va_X b L xs s s.heap) (hbl : b < s.heap.size) (hbA : ¬ A b) (hL : L ≤ 3072) (hi : i + 6 ≤ L) (hA : ∀ q : Nat, s.heap.size ≤ q → A q) (hK : va_K (dC, dI) cls_all (tyH km ++ tysG mo_tt 99 km2) s) (hP : va_P (dC, dI) cls_all (wH hm km x0 ++ at_mo0 hm2 km2 m0) H) (hD : va_D A (wH hm km x0 ++ at_mo0 hm2 km2 m0)) (hS : va_S A s.heap H locs) (hl : lv_has ls 4 [(3, .int (nI i)), (2, .ref m0), (1, .ref x0), (0, .ref b)]) (kk : ∀ (H : Heap) (locs : List Loc) (ls : Array Slot), va_S A s.heap H locs → lv_has ls 4 [(3, .int (nI i)), (2, .ref m0), (1, .ref x0), (0, .ref b)] → W p l e room_1 s m #[Value.ref b] below meth c H locs 246 442275 Q (F0 m 422 ls [])) : W p l e room_1 s m #[Value.ref b] below meth c H locs 246 442275 Q (F0 m 241 ls []) := by
  have hP := hP.sub (ws' := [oc x0 11 ([.ref (hm 0), .int 0, .int 0, .int 0, .ref (hm 1), .ref (hm 14), .ref (hm 35), .ref (hm 40), .ref (hm 41), .ref (hm 50), .ref (hm 52)] : List Value), oc m0 12 (fsG 153 mo_kd mo_ord 99 hm2 (va_up (va_up (fun _ => 0) 8 (-1)) 1 0) (fun _ => 0))]) [0, 68] rfl
  have hD := hD.sub (ws' := [oc x0 11 ([.ref (hm 0), .int 0, .int 0, .int 0, .ref (hm 1), .ref (hm 14), .ref (hm 35), .ref (hm 40), .ref (hm 41), .ref (hm 50), .ref (hm 52)] : List Value), oc m0 12 (fsG 153 mo_kd mo_ord 99 hm2 (va_up (va_up (fun _ => 0) 8 (-1)) 1 0) (fun _ => 0))]) [0, 68] (by decide) rfl
  have hK := hK.sub (tys' := []) [] rfl
  obtain ⟨fsM, efM⟩ : ∃ z, z = (fsG 153 mo_kd mo_ord 99 hm2 (va_up (va_up (fun _ => 0) 8 (-1)) 1 0) (fun _ => 0)) := ⟨_, rfl⟩
  have lenM : fsM.length = 153 := by rw [efM]; exact fsG_len
  rw [← efM] at hP hD
  have gM_hasProgram : fsM[10]? = some (.int 0) := by rw [efM]; exact (fsG_at (by decide)).trans rfl
  have hP : va_P (dC, dI) cls_all [oc x0 11 ([.ref (hm 0), .int 0, .int 0, .int 0, .ref (hm 1), .ref (hm 14), .ref (hm 35), .ref (hm 40), .ref (hm 41), .ref (hm 50), .ref (hm 52)] : List Value), oc m0 12 fsM] H := hP
  have hD : va_D A [oc x0 11 ([.ref (hm 0), .int 0, .int 0, .int 0, .ref (hm 1), .ref (hm 14), .ref (hm 35), .ref (hm 40), .ref (hm 41), .ref (hm 50), .ref (hm 52)] : List Value), oc m0 12 fsM] := hD
  refine lv_aload_n hx hb d_law_241 rfl (lv_at hl 2 rfl) ?_
  refine lv_aload_n hx hb d_law_242 rfl (lv_at hl 3 rfl) ?_
  refine lv_iload_n hx hb d_law_243 rfl (lv_at hl 0 rfl) ?_
  refine lv_iconst (v := 1) hx hb d_law_244 (by decide) ?_
  refine lv_iadd hx hb d_law_245 ?_
  refine lv_topi (fun x1 e1 => ?_)
  obtain rfl : x1 = nI ((i) + 1) := e1.trans (nI_add (i) 1)
  refine va_sld hx hb hX hbl hbA hS (vp_in_nI (by omega) (by omega)) d_law_246 ?_
  refine lv_topi (fun x2 e2 => ?_)
  obtain rfl : x2 = xs ((i) + 1) := e2.trans (congrArg xs (nI_clamp (by omega)))
  refine lv_aload_n hx hb d_law_247 rfl (lv_at hl 3 rfl) ?_
  refine lv_iload_n hx hb d_law_248 rfl (lv_at hl 0 rfl) ?_
  refine lv_iconst (v := 2) hx hb d_law_249 (by decide) ?_
  refine lv_iadd hx hb d_law_250 ?_
  refine lv_topi (fun x3 e3 => ?_)
  obtain rfl : x3 = nI ((i) + 2) := e3.trans (nI_add (i) 2)
  refine va_sld hx hb hX hbl hbA hS (vp_in_nI (by omega) (by omega)) d_law_251 ?_
  refine lv_topi (fun x4 e4 => ?_)
  obtain rfl : x4 = xs ((i) + 2) := e4.trans (congrArg xs (nI_clamp (by omega)))
  have hPc := hP.sub (ws' := [oc x0 11 ([.ref (hm 0), .int 0, .int 0, .int 0, .ref (hm 1), .ref (hm 14), .ref (hm 35), .ref (hm 40), .ref (hm 41), .ref (hm 50), .ref (hm 52)] : List Value)]) [0] rfl
  have hKc := hK.sub (tys' := []) [] rfl
  refine vp_callSi (va_Run.run (va_runV (As := [.int (xs ((i) + 1)), .int (xs ((i) + 2))]) (rest := []) ⟨hx, hb, hml, hown, hT⟩ (c_House_start_no l dC dI (h_this := x0) (fs_this := ([.ref (hm 0), .int 0, .int 0, .int 0, .ref (hm 1), .ref (hm 14), .ref (hm 35), .ref (hm 40), .ref (hm 41), .ref (hm 50), .ref (hm 52)] : List Value)) (v_this_ready := 0) (p1 := (xs ((i) + 1))) (p2 := (xs ((i) + 2))) (len_this := rfl) (g_this_ready := rfl) (hno := (Or.inl rfl))) (cwV 2 hT (gV ml_law_36 im_House_start se_House_start ini_House co_House_start) rfl rfl rfl (by decide +kernel) ⟨Nat.le_of_ble_eq_true rfl, Nat.le_of_ble_eq_true rfl⟩) ⟨fbS, va_recv hKc hPc (ci := 11) (q0 := 0) rfl rfl, fun U hU hW => ⟨rfl, by rw [hU]; exact hPc, va_K.moved hW.alike hKc⟩⟩ rfl rfl hl.1 rfl (lv_room (Nat.le_of_ble_eq_true rfl)) d_law_252 ⟨Nat.le_of_ble_eq_true rfl, Nat.le_of_ble_eq_true rfl⟩)) (fun r5 hr5 => ?_)
  refine lv_aload_n hx hb d_law_255 rfl (lv_at hl 1 rfl) ?_
  refine lv_aload_n hx hb d_law_256 rfl (lv_at hl 3 rfl) ?_
  refine lv_iload_n hx hb d_law_257 rfl (lv_at hl 0 rfl) ?_
  refine lv_iconst (v := 1) hx hb d_law_258 (by decide) ?_
  refine lv_iadd hx hb d_law_259 ?_
  refine lv_topi (fun x6 e6 => ?_)
  obtain rfl : x6 = nI ((i) + 1) := e6.trans (nI_add (i) 1)
  refine va_sld hx hb hX hbl hbA hS (vp_in_nI (by omega) (by omega)) d_law_260 ?_
  refine lv_topi (fun x7 e7 => ?_)
  obtain rfl : x7 = xs ((i) + 1) := e7.trans (congrArg xs (nI_clamp (by omega)))
  refine lv_aload_n hx hb d_law_261 rfl (lv_at hl 3 rfl) ?_
  refine lv_iload_n hx hb d_law_262 rfl (lv_at hl 0 rfl) ?_
  refine lv_iconst (v := 2) hx hb d_law_263 (by decide) ?_
  refine lv_iadd hx hb d_law_264 ?_
  refine lv_topi (fun x8 e8 => ?_)
  obtain rfl : x8 = nI ((i) + 2) := e8.trans (nI_add (i) 2)
  refine va_sld hx hb hX hbl hbA hS (vp_in_nI (by omega) (by omega)) d_law_265 ?_
  refine lv_topi (fun x9 e9 => ?_)
  obtain rfl : x9 = xs ((i) + 2) := e9.trans (congrArg xs (nI_clamp (by omega)))
  have hPc := hP.sub (ws' := [oc m0 12 fsM]) [1] rfl
  have hKc := hK.sub (tys' := []) [] rfl
  refine vp_callSi (va_Run.run (va_runV (As := [.int (xs ((i) + 1)), .int (xs ((i) + 2))]) (rest := [.int r5]) ⟨hx, hb, hml, hown, hT⟩ (c_Model_start_no l dC dI (h_this := m0) (fs_this := fsM) (v_this_hasProgram := 0) (p1 := (xs ((i) + 1))) (p2 := (xs ((i) + 2))) (len_this := (by first | exact lenM | (simp only [List.length_set]; exact lenM))) (g_this_hasProgram := gM_hasProgram) (hno := (Or.inl rfl))) (cwV 2 hT (gV ml_law_40 im_Model_start se_Model_start ini_Model co_Model_start) rfl rfl rfl (by decide +kernel) ⟨Nat.le_of_ble_eq_true rfl, Nat.le_of_ble_eq_true rfl⟩) ⟨fbS, va_recv hKc hPc (ci := 12) (q0 := 0) rfl rfl, fun U hU hW => ⟨rfl, by rw [hU]; exact hPc, va_K.moved hW.alike hKc⟩⟩ rfl rfl hl.1 rfl (lv_room (Nat.le_of_ble_eq_true rfl)) d_law_266 ⟨Nat.le_of_ble_eq_true rfl, Nat.le_of_ble_eq_true rfl⟩)) (fun r10 hr10 => ?_)
  have hq : r5 = r10 := hr5.trans hr10.symm
  refine lv_icmp_eq (tgt := 422) hx hb d_law_269 (by decide) (fun c11 => ?_) (fun c11 => absurd hq c11)
  exact kk _ _ _ hS (lv_sub hl [0, 1, 2, 3] rfl)
set_option maxHeartbeats 4000000 in
set_option maxRecDepth 100000 in
theorem law_c6 {p : Program} {e : Env} {s : State} {m : MethodId} {below : List Frame} {meth : Method} {c : Code} (l : Launch) {b L : Nat} {xs : Nat → Int32} {A : Nat → Prop} {ad av : Nat → Nat} {dC : Nat → ClassId} {dI : Nat → Nat → Nat} {Q : State → Prop} {H : Heap} {locs : List Loc} {ls : Array Slot} {i x0 m0 : Nat} {hm : Nat → Nat} {km : Nat → ClassId} {hm2 : Nat → Nat} {km2 : Nat → ClassId} (hx : p.tables.exec = Jvm.exec) (hb : c.code = code) (hml : c.maxLocals = 4) (hown : s.vm.findClass R_law = some m.cls) (hT : ∀ w ∈ lw_good, w.before #[Value.ref b] s = true) (hnw : nw_all s) (henv : env0 ad av A s s.heap) (hX : va_X b L xs s s.heap) (hbl : b < s.heap.size) (hbA : ¬ A b) (hL : L ≤ 3072) (hi : i + 6 ≤ L) (hA : ∀ q : Nat, s.heap.size ≤ q → A q) (hK : va_K (dC, dI) cls_all (tyH km ++ tysG mo_tt 99 km2) s) (hP : va_P (dC, dI) cls_all (wH hm km x0 ++ at_mo0 hm2 km2 m0) H) (hD : va_D A (wH hm km x0 ++ at_mo0 hm2 km2 m0)) (hS : va_S A s.heap H locs) (hl : lv_has ls 4 [(3, .int (nI i)), (2, .ref m0), (1, .ref x0), (0, .ref b)]) (kk : ∀ (H : Heap) (locs : List Loc) (ls : Array Slot), va_S A s.heap H locs → lv_has ls 4 [(3, .int (nI i)), (2, .ref m0), (1, .ref x0), (0, .ref b)] → W p l e room_1 s m #[Value.ref b] below meth c H locs 246 442275 Q (F0 m 422 ls [])) : W p l e room_1 s m #[Value.ref b] below meth c H locs 246 442275 Q (F0 m 274 ls []) := by
  have hP := hP.sub (ws' := [oc x0 11 ([.ref (hm 0), .int 0, .int 0, .int 0, .ref (hm 1), .ref (hm 14), .ref (hm 35), .ref (hm 40), .ref (hm 41), .ref (hm 50), .ref (hm 52)] : List Value), oc (hm 52) 4 ([.ref (hm 35), .ref (hm 14), .ref (hm 58), .ref (hm 53), .int 0, .ref (hm 54), .int 0, .ref (hm 55), .int 0, .int 0, .int 0, .int 0, .int 0, .int 0, .ref (hm 56), .int 0, .ref (hm 57), .int 0] : List Value), ic (hm 56) (km 56) 100 (fun _ => 0), oc m0 12 (fsG 153 mo_kd mo_ord 99 hm2 (va_up (va_up (fun _ => 0) 8 (-1)) 1 0) (fun _ => 0))]) [0, 53, 57, 68] rfl
  have hD := hD.sub (ws' := [oc x0 11 ([.ref (hm 0), .int 0, .int 0, .int 0, .ref (hm 1), .ref (hm 14), .ref (hm 35), .ref (hm 40), .ref (hm 41), .ref (hm 50), .ref (hm 52)] : List Value), oc (hm 52) 4 ([.ref (hm 35), .ref (hm 14), .ref (hm 58), .ref (hm 53), .int 0, .ref (hm 54), .int 0, .ref (hm 55), .int 0, .int 0, .int 0, .int 0, .int 0, .int 0, .ref (hm 56), .int 0, .ref (hm 57), .int 0] : List Value), ic (hm 56) (km 56) 100 (fun _ => 0), oc m0 12 (fsG 153 mo_kd mo_ord 99 hm2 (va_up (va_up (fun _ => 0) 8 (-1)) 1 0) (fun _ => 0))]) [0, 53, 57, 68] (by decide) rfl
  have hK := hK.sub (tys' := [((km 56), .int)]) [46] rfl
  obtain ⟨fsM, efM⟩ : ∃ z, z = (fsG 153 mo_kd mo_ord 99 hm2 (va_up (va_up (fun _ => 0) 8 (-1)) 1 0) (fun _ => 0)) := ⟨_, rfl⟩
  have lenM : fsM.length = 153 := by rw [efM]; exact fsG_len
  rw [← efM] at hP hD
  have gM_state : fsM[100]? = some (.int 0) := by rw [efM]; exact (fsG_at (by decide)).trans rfl
  have gM_waiting : fsM[150]? = some (.int 0) := by rw [efM]; exact (fsG_at (by decide)).trans rfl
  have hP : va_P (dC, dI) cls_all [oc x0 11 ([.ref (hm 0), .int 0, .int 0, .int 0, .ref (hm 1), .ref (hm 14), .ref (hm 35), .ref (hm 40), .ref (hm 41), .ref (hm 50), .ref (hm 52)] : List Value), oc (hm 52) 4 ([.ref (hm 35), .ref (hm 14), .ref (hm 58), .ref (hm 53), .int 0, .ref (hm 54), .int 0, .ref (hm 55), .int 0, .int 0, .int 0, .int 0, .int 0, .int 0, .ref (hm 56), .int 0, .ref (hm 57), .int 0] : List Value), ic (hm 56) (km 56) 100 (fun _ => 0), oc m0 12 fsM] H := hP
  have hD : va_D A [oc x0 11 ([.ref (hm 0), .int 0, .int 0, .int 0, .ref (hm 1), .ref (hm 14), .ref (hm 35), .ref (hm 40), .ref (hm 41), .ref (hm 50), .ref (hm 52)] : List Value), oc (hm 52) 4 ([.ref (hm 35), .ref (hm 14), .ref (hm 58), .ref (hm 53), .int 0, .ref (hm 54), .int 0, .ref (hm 55), .int 0, .int 0, .int 0, .int 0, .int 0, .int 0, .ref (hm 56), .int 0, .ref (hm 57), .int 0] : List Value), ic (hm 56) (km 56) 100 (fun _ => 0), oc m0 12 fsM] := hD
  refine lv_aload_n hx hb d_law_274 rfl (lv_at hl 2 rfl) ?_
  refine lv_aload_n hx hb d_law_275 rfl (lv_at hl 3 rfl) ?_
  refine lv_iload_n hx hb d_law_276 rfl (lv_at hl 0 rfl) ?_
  refine lv_iconst (v := 1) hx hb d_law_277 (by decide) ?_
  refine lv_iadd hx hb d_law_278 ?_
  refine lv_topi (fun x1 e1 => ?_)
  obtain rfl : x1 = nI ((i) + 1) := e1.trans (nI_add (i) 1)
  refine va_sld hx hb hX hbl hbA hS (vp_in_nI (by omega) (by omega)) d_law_279 ?_
  refine lv_topi (fun x2 e2 => ?_)
  obtain rfl : x2 = xs ((i) + 1) := e2.trans (congrArg xs (nI_clamp (by omega)))
  have hPc := hP.sub (ws' := [oc x0 11 ([.ref (hm 0), .int 0, .int 0, .int 0, .ref (hm 1), .ref (hm 14), .ref (hm 35), .ref (hm 40), .ref (hm 41), .ref (hm 50), .ref (hm 52)] : List Value), oc (hm 52) 4 ([.ref (hm 35), .ref (hm 14), .ref (hm 58), .ref (hm 53), .int 0, .ref (hm 54), .int 0, .ref (hm 55), .int 0, .int 0, .int 0, .int 0, .int 0, .int 0, .ref (hm 56), .int 0, .ref (hm 57), .int 0] : List Value), ic (hm 56) (km 56) 100 (fun _ => 0)]) [0, 1, 2] rfl
  have hKc := hK.sub (tys' := [((km 56), .int)]) [0] rfl
  refine vp_callSi (va_Run.run (va_runV (As := [.int (xs ((i) + 1))]) (rest := []) ⟨hx, hb, hml, hown, hT⟩ (c_House_input_no l dC dI (h_this := x0) (h_machine := (hm 52)) (h_machine_inputs := (hm 56)) (fs_this := ([.ref (hm 0), .int 0, .int 0, .int 0, .ref (hm 1), .ref (hm 14), .ref (hm 35), .ref (hm 40), .ref (hm 41), .ref (hm 50), .ref (hm 52)] : List Value)) (fs_machine := ([.ref (hm 35), .ref (hm 14), .ref (hm 58), .ref (hm 53), .int 0, .ref (hm 54), .int 0, .ref (hm 55), .int 0, .int 0, .int 0, .int 0, .int 0, .int 0, .ref (hm 56), .int 0, .ref (hm 57), .int 0] : List Value)) (v_machine_state := 0) (v_machine_inputCount := 0) (k_machine_inputs := (km 56)) (f_machine_inputs := (fun _ => 0)) (p1 := (xs ((i) + 1))) (len_this := rfl) (g_this_machine := rfl) (len_machine := rfl) (g_machine_state := rfl) (g_machine_inputCount := rfl) (g_machine_inputs := rfl) (hno := (Or.inl (by decide)))) (cwV 1 hT (gV ml_law_41 im_House_input se_House_input ini_House co_House_input) rfl rfl rfl (by decide +kernel) ⟨Nat.le_of_ble_eq_true rfl, Nat.le_of_ble_eq_true rfl⟩) ⟨fbS, va_recv hKc hPc (ci := 11) (q0 := 0) rfl rfl, fun U hU hW => ⟨rfl, by rw [hU]; exact hPc, va_K.moved hW.alike hKc⟩⟩ rfl rfl hl.1 rfl (lv_room (Nat.le_of_ble_eq_true rfl)) d_law_280 ⟨Nat.le_of_ble_eq_true rfl, Nat.le_of_ble_eq_true rfl⟩)) (fun r3 hr3 => ?_)
  refine lv_aload_n hx hb d_law_283 rfl (lv_at hl 1 rfl) ?_
  refine lv_aload_n hx hb d_law_284 rfl (lv_at hl 3 rfl) ?_
  refine lv_iload_n hx hb d_law_285 rfl (lv_at hl 0 rfl) ?_
  refine lv_iconst (v := 1) hx hb d_law_286 (by decide) ?_
  refine lv_iadd hx hb d_law_287 ?_
  refine lv_topi (fun x4 e4 => ?_)
  obtain rfl : x4 = nI ((i) + 1) := e4.trans (nI_add (i) 1)
  refine va_sld hx hb hX hbl hbA hS (vp_in_nI (by omega) (by omega)) d_law_288 ?_
  refine lv_topi (fun x5 e5 => ?_)
  obtain rfl : x5 = xs ((i) + 1) := e5.trans (congrArg xs (nI_clamp (by omega)))
  have hPc := hP.sub (ws' := [oc m0 12 fsM]) [3] rfl
  have hKc := hK.sub (tys' := []) [] rfl
  refine vp_callSi (va_Run.run (va_runV (As := [.int (xs ((i) + 1))]) (rest := [.int r3]) ⟨hx, hb, hml, hown, hT⟩ (c_Model_input_no l dC dI (h_this := m0) (fs_this := fsM) (v_this_state := 0) (v_this_waiting := 0) (p1 := (xs ((i) + 1))) (len_this := (by first | exact lenM | (simp only [List.length_set]; exact lenM))) (g_this_state := gM_state) (g_this_waiting := gM_waiting) (hno := (Or.inl (by decide)))) (cwV 1 hT (gV ml_law_44 im_Model_input_I se_Model_input_I ini_Model co_Model_input_I) rfl rfl rfl (by decide +kernel) ⟨Nat.le_of_ble_eq_true rfl, Nat.le_of_ble_eq_true rfl⟩) ⟨fbS, va_recv hKc hPc (ci := 12) (q0 := 0) rfl rfl, fun U hU hW => ⟨rfl, by rw [hU]; exact hPc, va_K.moved hW.alike hKc⟩⟩ rfl rfl hl.1 rfl (lv_room (Nat.le_of_ble_eq_true rfl)) d_law_289 ⟨Nat.le_of_ble_eq_true rfl, Nat.le_of_ble_eq_true rfl⟩)) (fun r6 hr6 => ?_)
  have hq : r3 = r6 := hr3.trans hr6.symm
  refine lv_icmp_eq (tgt := 422) hx hb d_law_292 (by decide) (fun c7 => ?_) (fun c7 => absurd hq c7)
  exact kk _ _ _ hS (lv_sub hl [0, 1, 2, 3] rfl)
set_option maxHeartbeats 4000000 in
set_option maxRecDepth 100000 in
theorem law_c7 {p : Program} {e : Env} {s : State} {m : MethodId} {below : List Frame} {meth : Method} {c : Code} (l : Launch) {b L : Nat} {xs : Nat → Int32} {A : Nat → Prop} {ad av : Nat → Nat} {dC : Nat → ClassId} {dI : Nat → Nat → Nat} {Q : State → Prop} {H : Heap} {locs : List Loc} {ls : Array Slot} {i x0 m0 : Nat} {hm : Nat → Nat} {km : Nat → ClassId} {hm2 : Nat → Nat} {km2 : Nat → ClassId} (hx : p.tables.exec = Jvm.exec) (hb : c.code = code) (hml : c.maxLocals = 4) (hown : s.vm.findClass R_law = some m.cls) (hT : ∀ w ∈ lw_good, w.before #[Value.ref b] s = true) (hnw : nw_all s) (henv : env0 ad av A s s.heap) (hX : va_X b L xs s s.heap) (hbl : b < s.heap.size) (hbA : ¬ A b) (hL : L ≤ 3072) (hi : i + 6 ≤ L) (hA : ∀ q : Nat, s.heap.size ≤ q → A q) (hK : va_K (dC, dI) cls_all (tyH km ++ tysG mo_tt 99 km2) s) (hP : va_P (dC, dI) cls_all (wH hm km x0 ++ at_mo0 hm2 km2 m0) H) (hD : va_D A (wH hm km x0 ++ at_mo0 hm2 km2 m0)) (hS : va_S A s.heap H locs) (hl : lv_has ls 4 [(3, .int (nI i)), (2, .ref m0), (1, .ref x0), (0, .ref b)]) (kk : ∀ (H : Heap) (locs : List Loc) (ls : Array Slot), va_S A s.heap H locs → lv_has ls 4 [(3, .int (nI i)), (2, .ref m0), (1, .ref x0), (0, .ref b)] → W p l e room_1 s m #[Value.ref b] below meth c H locs 246 442275 Q (F0 m 422 ls [])) : W p l e room_1 s m #[Value.ref b] below meth c H locs 246 442275 Q (F0 m 297 ls []) := by
  have hP := hP.sub (ws' := [oc x0 11 ([.ref (hm 0), .int 0, .int 0, .int 0, .ref (hm 1), .ref (hm 14), .ref (hm 35), .ref (hm 40), .ref (hm 41), .ref (hm 50), .ref (hm 52)] : List Value), oc (hm 52) 4 ([.ref (hm 35), .ref (hm 14), .ref (hm 58), .ref (hm 53), .int 0, .ref (hm 54), .int 0, .ref (hm 55), .int 0, .int 0, .int 0, .int 0, .int 0, .int 0, .ref (hm 56), .int 0, .ref (hm 57), .int 0] : List Value), oc m0 12 (fsG 153 mo_kd mo_ord 99 hm2 (va_up (va_up (fun _ => 0) 8 (-1)) 1 0) (fun _ => 0))]) [0, 53, 68] rfl
  have hD := hD.sub (ws' := [oc x0 11 ([.ref (hm 0), .int 0, .int 0, .int 0, .ref (hm 1), .ref (hm 14), .ref (hm 35), .ref (hm 40), .ref (hm 41), .ref (hm 50), .ref (hm 52)] : List Value), oc (hm 52) 4 ([.ref (hm 35), .ref (hm 14), .ref (hm 58), .ref (hm 53), .int 0, .ref (hm 54), .int 0, .ref (hm 55), .int 0, .int 0, .int 0, .int 0, .int 0, .int 0, .ref (hm 56), .int 0, .ref (hm 57), .int 0] : List Value), oc m0 12 (fsG 153 mo_kd mo_ord 99 hm2 (va_up (va_up (fun _ => 0) 8 (-1)) 1 0) (fun _ => 0))]) [0, 53, 68] (by decide) rfl
  have hK := hK.sub (tys' := []) [] rfl
  obtain ⟨fsM, efM⟩ : ∃ z, z = (fsG 153 mo_kd mo_ord 99 hm2 (va_up (va_up (fun _ => 0) 8 (-1)) 1 0) (fun _ => 0)) := ⟨_, rfl⟩
  have lenM : fsM.length = 153 := by rw [efM]; exact fsG_len
  rw [← efM] at hP hD
  have gM_state : fsM[100]? = some (.int 0) := by rw [efM]; exact (fsG_at (by decide)).trans rfl
  have hP : va_P (dC, dI) cls_all [oc x0 11 ([.ref (hm 0), .int 0, .int 0, .int 0, .ref (hm 1), .ref (hm 14), .ref (hm 35), .ref (hm 40), .ref (hm 41), .ref (hm 50), .ref (hm 52)] : List Value), oc (hm 52) 4 ([.ref (hm 35), .ref (hm 14), .ref (hm 58), .ref (hm 53), .int 0, .ref (hm 54), .int 0, .ref (hm 55), .int 0, .int 0, .int 0, .int 0, .int 0, .int 0, .ref (hm 56), .int 0, .ref (hm 57), .int 0] : List Value), oc m0 12 fsM] H := hP
  have hD : va_D A [oc x0 11 ([.ref (hm 0), .int 0, .int 0, .int 0, .ref (hm 1), .ref (hm 14), .ref (hm 35), .ref (hm 40), .ref (hm 41), .ref (hm 50), .ref (hm 52)] : List Value), oc (hm 52) 4 ([.ref (hm 35), .ref (hm 14), .ref (hm 58), .ref (hm 53), .int 0, .ref (hm 54), .int 0, .ref (hm 55), .int 0, .int 0, .int 0, .int 0, .int 0, .int 0, .ref (hm 56), .int 0, .ref (hm 57), .int 0] : List Value), oc m0 12 fsM] := hD
  refine lv_aload_n hx hb d_law_297 rfl (lv_at hl 2 rfl) ?_
  refine lv_aload_n hx hb d_law_298 rfl (lv_at hl 3 rfl) ?_
  refine lv_iload_n hx hb d_law_299 rfl (lv_at hl 0 rfl) ?_
  refine lv_iconst (v := 1) hx hb d_law_300 (by decide) ?_
  refine lv_iadd hx hb d_law_301 ?_
  refine lv_topi (fun x1 e1 => ?_)
  obtain rfl : x1 = nI ((i) + 1) := e1.trans (nI_add (i) 1)
  refine va_sld hx hb hX hbl hbA hS (vp_in_nI (by omega) (by omega)) d_law_302 ?_
  refine lv_topi (fun x2 e2 => ?_)
  obtain rfl : x2 = xs ((i) + 1) := e2.trans (congrArg xs (nI_clamp (by omega)))
  have hPc := hP.sub (ws' := [oc x0 11 ([.ref (hm 0), .int 0, .int 0, .int 0, .ref (hm 1), .ref (hm 14), .ref (hm 35), .ref (hm 40), .ref (hm 41), .ref (hm 50), .ref (hm 52)] : List Value), oc (hm 52) 4 ([.ref (hm 35), .ref (hm 14), .ref (hm 58), .ref (hm 53), .int 0, .ref (hm 54), .int 0, .ref (hm 55), .int 0, .int 0, .int 0, .int 0, .int 0, .int 0, .ref (hm 56), .int 0, .ref (hm 57), .int 0] : List Value)]) [0, 1] rfl
  have hKc := hK.sub (tys' := []) [] rfl
  refine vp_callSi (va_Run.run (va_runV (As := [.int (xs ((i) + 1))]) (rest := []) ⟨hx, hb, hml, hown, hT⟩ (c_House_run_no l dC dI (h_this := x0) (h_machine := (hm 52)) (fs_this := ([.ref (hm 0), .int 0, .int 0, .int 0, .ref (hm 1), .ref (hm 14), .ref (hm 35), .ref (hm 40), .ref (hm 41), .ref (hm 50), .ref (hm 52)] : List Value)) (fs_machine := ([.ref (hm 35), .ref (hm 14), .ref (hm 58), .ref (hm 53), .int 0, .ref (hm 54), .int 0, .ref (hm 55), .int 0, .int 0, .int 0, .int 0, .int 0, .int 0, .ref (hm 56), .int 0, .ref (hm 57), .int 0] : List Value)) (v_machine_state := 0) (p1 := (xs ((i) + 1))) (len_this := rfl) (g_this_machine := rfl) (len_machine := rfl) (g_machine_state := rfl) (hno := (Or.inr (Or.inr (by decide))))) (cwV 1 hT (gV ml_law_45 im_House_run se_House_run ini_House co_House_run) rfl rfl rfl (by decide +kernel) ⟨Nat.le_of_ble_eq_true rfl, Nat.le_of_ble_eq_true rfl⟩) ⟨fbS, va_recv hKc hPc (ci := 11) (q0 := 0) rfl rfl, fun U hU hW => ⟨rfl, by rw [hU]; exact hPc, va_K.moved hW.alike hKc⟩⟩ rfl rfl hl.1 rfl (lv_room (Nat.le_of_ble_eq_true rfl)) d_law_303 ⟨Nat.le_of_ble_eq_true rfl, Nat.le_of_ble_eq_true rfl⟩)) (fun r3 hr3 => ?_)
  refine lv_aload_n hx hb d_law_306 rfl (lv_at hl 1 rfl) ?_
  refine lv_aload_n hx hb d_law_307 rfl (lv_at hl 3 rfl) ?_
  refine lv_iload_n hx hb d_law_308 rfl (lv_at hl 0 rfl) ?_
  refine lv_iconst (v := 1) hx hb d_law_309 (by decide) ?_
  refine lv_iadd hx hb d_law_310 ?_
  refine lv_topi (fun x4 e4 => ?_)
  obtain rfl : x4 = nI ((i) + 1) := e4.trans (nI_add (i) 1)
  refine va_sld hx hb hX hbl hbA hS (vp_in_nI (by omega) (by omega)) d_law_311 ?_
  refine lv_topi (fun x5 e5 => ?_)
  obtain rfl : x5 = xs ((i) + 1) := e5.trans (congrArg xs (nI_clamp (by omega)))
  have hPc := hP.sub (ws' := [oc m0 12 fsM]) [2] rfl
  have hKc := hK.sub (tys' := []) [] rfl
  refine vp_callSi (va_Run.run (va_runV (As := [.int (xs ((i) + 1))]) (rest := [.int r3]) ⟨hx, hb, hml, hown, hT⟩ (c_Model_run_no l dC dI (h_this := m0) (fs_this := fsM) (v_this_state := 0) (p1 := (xs ((i) + 1))) (len_this := (by first | exact lenM | (simp only [List.length_set]; exact lenM))) (g_this_state := gM_state) (hno := (Or.inr (Or.inr (by decide))))) (cwV 1 hT (gV ml_law_48 im_Model_run_I se_Model_run_I ini_Model co_Model_run_I) rfl rfl rfl (by decide +kernel) ⟨Nat.le_of_ble_eq_true rfl, Nat.le_of_ble_eq_true rfl⟩) ⟨fbS, va_recv hKc hPc (ci := 12) (q0 := 0) rfl rfl, fun U hU hW => ⟨rfl, by rw [hU]; exact hPc, va_K.moved hW.alike hKc⟩⟩ rfl rfl hl.1 rfl (lv_room (Nat.le_of_ble_eq_true rfl)) d_law_312 ⟨Nat.le_of_ble_eq_true rfl, Nat.le_of_ble_eq_true rfl⟩)) (fun r6 hr6 => ?_)
  have hq : r3 = r6 := hr3.trans hr6.symm
  refine lv_icmp_eq (tgt := 422) hx hb d_law_315 (by decide) (fun c7 => ?_) (fun c7 => absurd hq c7)
  exact kk _ _ _ hS (lv_sub hl [0, 1, 2, 3] rfl)
set_option maxHeartbeats 4000000 in
set_option maxRecDepth 100000 in
theorem law_c8 {p : Program} {e : Env} {s : State} {m : MethodId} {below : List Frame} {meth : Method} {c : Code} (l : Launch) {b L : Nat} {xs : Nat → Int32} {A : Nat → Prop} {ad av : Nat → Nat} {dC : Nat → ClassId} {dI : Nat → Nat → Nat} {Q : State → Prop} {H : Heap} {locs : List Loc} {ls : Array Slot} {i x0 m0 : Nat} {hm : Nat → Nat} {km : Nat → ClassId} {hm2 : Nat → Nat} {km2 : Nat → ClassId} (hx : p.tables.exec = Jvm.exec) (hb : c.code = code) (hml : c.maxLocals = 4) (hown : s.vm.findClass R_law = some m.cls) (hT : ∀ w ∈ lw_good, w.before #[Value.ref b] s = true) (hnw : nw_all s) (henv : env0 ad av A s s.heap) (hX : va_X b L xs s s.heap) (hbl : b < s.heap.size) (hbA : ¬ A b) (hL : L ≤ 3072) (hi : i + 6 ≤ L) (hA : ∀ q : Nat, s.heap.size ≤ q → A q) (hK : va_K (dC, dI) cls_all (tyH km ++ tysG mo_tt 99 km2) s) (hP : va_P (dC, dI) cls_all (wH hm km x0 ++ at_mo0 hm2 km2 m0) H) (hD : va_D A (wH hm km x0 ++ at_mo0 hm2 km2 m0)) (hS : va_S A s.heap H locs) (hl : lv_has ls 4 [(3, .int (nI i)), (2, .ref m0), (1, .ref x0), (0, .ref b)]) (kk : ∀ (H : Heap) (locs : List Loc) (ls : Array Slot), va_S A s.heap H locs → lv_has ls 4 [(3, .int (nI i)), (2, .ref m0), (1, .ref x0), (0, .ref b)] → W p l e room_1 s m #[Value.ref b] below meth c H locs 246 442275 Q (F0 m 422 ls [])) : W p l e room_1 s m #[Value.ref b] below meth c H locs 246 442275 Q (F0 m 320 ls []) := by
  have hP := hP.sub (ws' := [oc x0 11 ([.ref (hm 0), .int 0, .int 0, .int 0, .ref (hm 1), .ref (hm 14), .ref (hm 35), .ref (hm 40), .ref (hm 41), .ref (hm 50), .ref (hm 52)] : List Value), oc (hm 52) 4 ([.ref (hm 35), .ref (hm 14), .ref (hm 58), .ref (hm 53), .int 0, .ref (hm 54), .int 0, .ref (hm 55), .int 0, .int 0, .int 0, .int 0, .int 0, .int 0, .ref (hm 56), .int 0, .ref (hm 57), .int 0] : List Value), oc (hm 35) 0 ([.ref (hm 36), .ref (hm 37), .ref (hm 38), .int 0, .ref (hm 39), .int 0, .int (-1)] : List Value), ic (hm 37) (km 37) 6032 (fun _ => 0), ic (hm 54) (km 54) 697 (fun _ => 0), oc m0 12 (fsG 153 mo_kd mo_ord 99 hm2 (va_up (va_up (fun _ => 0) 8 (-1)) 1 0) (fun _ => 0)), ic (hm2 61) (km2 61) 12000 (fun _ => 0), ic (hm2 69) (km2 69) 41 (fun _ => 0)]) [0, 53, 36, 38, 55, 68, 130, 138] rfl
  have hD := hD.sub (ws' := [oc x0 11 ([.ref (hm 0), .int 0, .int 0, .int 0, .ref (hm 1), .ref (hm 14), .ref (hm 35), .ref (hm 40), .ref (hm 41), .ref (hm 50), .ref (hm 52)] : List Value), oc (hm 52) 4 ([.ref (hm 35), .ref (hm 14), .ref (hm 58), .ref (hm 53), .int 0, .ref (hm 54), .int 0, .ref (hm 55), .int 0, .int 0, .int 0, .int 0, .int 0, .int 0, .ref (hm 56), .int 0, .ref (hm 57), .int 0] : List Value), oc (hm 35) 0 ([.ref (hm 36), .ref (hm 37), .ref (hm 38), .int 0, .ref (hm 39), .int 0, .int (-1)] : List Value), ic (hm 37) (km 37) 6032 (fun _ => 0), ic (hm 54) (km 54) 697 (fun _ => 0), oc m0 12 (fsG 153 mo_kd mo_ord 99 hm2 (va_up (va_up (fun _ => 0) 8 (-1)) 1 0) (fun _ => 0)), ic (hm2 61) (km2 61) 12000 (fun _ => 0), ic (hm2 69) (km2 69) 41 (fun _ => 0)]) [0, 53, 36, 38, 55, 68, 130, 138] (by decide) rfl
  have hK := hK.sub (tys' := [((km 37), .int), ((km 54), .int), ((km2 61), .int), ((km2 69), .int)]) [34, 44, 117, 125] rfl
  obtain ⟨fsM, efM⟩ : ∃ z, z = (fsG 153 mo_kd mo_ord 99 hm2 (va_up (va_up (fun _ => 0) 8 (-1)) 1 0) (fun _ => 0)) := ⟨_, rfl⟩
  have lenM : fsM.length = 153 := by rw [efM]; exact fsG_len
  rw [← efM] at hP hD
  have gM_state : fsM[100]? = some (.int 0) := by rw [efM]; exact (fsG_at (by decide)).trans rfl
  have gM_errorNumber : fsM[108]? = some (.int 0) := by rw [efM]; exact (fsG_at (by decide)).trans rfl
  have gM_counter : fsM[102]? = some (.int 0) := by rw [efM]; exact (fsG_at (by decide)).trans rfl
  have gM_depth : fsM[103]? = some (.int 0) := by rw [efM]; exact (fsG_at (by decide)).trans rfl
  have gM_first : fsM[97]? = some (.ref (hm2 61)) := by rw [efM]; exact (fsG_at (by decide)).trans rfl
  have gM_stepPlace : fsM[115]? = some (.ref (hm2 69)) := by rw [efM]; exact (fsG_at (by decide)).trans rfl
  have hP : va_P (dC, dI) cls_all [oc x0 11 ([.ref (hm 0), .int 0, .int 0, .int 0, .ref (hm 1), .ref (hm 14), .ref (hm 35), .ref (hm 40), .ref (hm 41), .ref (hm 50), .ref (hm 52)] : List Value), oc (hm 52) 4 ([.ref (hm 35), .ref (hm 14), .ref (hm 58), .ref (hm 53), .int 0, .ref (hm 54), .int 0, .ref (hm 55), .int 0, .int 0, .int 0, .int 0, .int 0, .int 0, .ref (hm 56), .int 0, .ref (hm 57), .int 0] : List Value), oc (hm 35) 0 ([.ref (hm 36), .ref (hm 37), .ref (hm 38), .int 0, .ref (hm 39), .int 0, .int (-1)] : List Value), ic (hm 37) (km 37) 6032 (fun _ => 0), ic (hm 54) (km 54) 697 (fun _ => 0), oc m0 12 fsM, ic (hm2 61) (km2 61) 12000 (fun _ => 0), ic (hm2 69) (km2 69) 41 (fun _ => 0)] H := hP
  have hD : va_D A [oc x0 11 ([.ref (hm 0), .int 0, .int 0, .int 0, .ref (hm 1), .ref (hm 14), .ref (hm 35), .ref (hm 40), .ref (hm 41), .ref (hm 50), .ref (hm 52)] : List Value), oc (hm 52) 4 ([.ref (hm 35), .ref (hm 14), .ref (hm 58), .ref (hm 53), .int 0, .ref (hm 54), .int 0, .ref (hm 55), .int 0, .int 0, .int 0, .int 0, .int 0, .int 0, .ref (hm 56), .int 0, .ref (hm 57), .int 0] : List Value), oc (hm 35) 0 ([.ref (hm 36), .ref (hm 37), .ref (hm 38), .int 0, .ref (hm 39), .int 0, .int (-1)] : List Value), ic (hm 37) (km 37) 6032 (fun _ => 0), ic (hm 54) (km 54) 697 (fun _ => 0), oc m0 12 fsM, ic (hm2 61) (km2 61) 12000 (fun _ => 0), ic (hm2 69) (km2 69) 41 (fun _ => 0)] := hD
  refine lv_aload_n hx hb d_law_320 rfl (lv_at hl 2 rfl) ?_
  refine lv_aload_n hx hb d_law_321 rfl (lv_at hl 3 rfl) ?_
  refine lv_iload_n hx hb d_law_322 rfl (lv_at hl 0 rfl) ?_
  refine lv_iconst (v := 1) hx hb d_law_323 (by decide) ?_
  refine lv_iadd hx hb d_law_324 ?_
  refine lv_topi (fun x1 e1 => ?_)
  obtain rfl : x1 = nI ((i) + 1) := e1.trans (nI_add (i) 1)
  refine va_sld hx hb hX hbl hbA hS (vp_in_nI (by omega) (by omega)) d_law_325 ?_
  refine lv_topi (fun x2 e2 => ?_)
  obtain rfl : x2 = xs ((i) + 1) := e2.trans (congrArg xs (nI_clamp (by omega)))
  have hPc := hP.sub (ws' := [oc x0 11 ([.ref (hm 0), .int 0, .int 0, .int 0, .ref (hm 1), .ref (hm 14), .ref (hm 35), .ref (hm 40), .ref (hm 41), .ref (hm 50), .ref (hm 52)] : List Value), oc (hm 52) 4 ([.ref (hm 35), .ref (hm 14), .ref (hm 58), .ref (hm 53), .int 0, .ref (hm 54), .int 0, .ref (hm 55), .int 0, .int 0, .int 0, .int 0, .int 0, .int 0, .ref (hm 56), .int 0, .ref (hm 57), .int 0] : List Value), oc (hm 35) 0 ([.ref (hm 36), .ref (hm 37), .ref (hm 38), .int 0, .ref (hm 39), .int 0, .int (-1)] : List Value), ic (hm 37) (km 37) 6032 (fun _ => 0), ic (hm 54) (km 54) 697 (fun _ => 0)]) [0, 1, 2, 3, 4] rfl
  have hKc := hK.sub (tys' := [((km 37), .int), ((km 54), .int)]) [0, 1] rfl
  refine vp_callSi (va_Run.run (va_runV (As := [.int (xs ((i) + 1))]) (rest := []) ⟨hx, hb, hml, hown, hT⟩ (c_House_state l dC dI (h_this := x0) (h_machine := (hm 52)) (h_machine_code := (hm 35)) (h_machine_code_first := (hm 37)) (h_machine_frames := (hm 54)) (fs_this := ([.ref (hm 0), .int 0, .int 0, .int 0, .ref (hm 1), .ref (hm 14), .ref (hm 35), .ref (hm 40), .ref (hm 41), .ref (hm 50), .ref (hm 52)] : List Value)) (fs_machine := ([.ref (hm 35), .ref (hm 14), .ref (hm 58), .ref (hm 53), .int 0, .ref (hm 54), .int 0, .ref (hm 55), .int 0, .int 0, .int 0, .int 0, .int 0, .int 0, .ref (hm 56), .int 0, .ref (hm 57), .int 0] : List Value)) (v_machine_state := 0) (v_machine_error := 0) (v_machine_pc := 0) (v_machine_calls := 0) (fs_machine_code := ([.ref (hm 36), .ref (hm 37), .ref (hm 38), .int 0, .ref (hm 39), .int 0, .int (-1)] : List Value)) (v_machine_code_count := 0) (k_machine_code_first := (km 37)) (f_machine_code_first := (fun _ => 0)) (k_machine_frames := (km 54)) (f_machine_frames := (fun _ => 0)) (p1 := (xs ((i) + 1))) (len_this := rfl) (g_this_machine := rfl) (len_machine := rfl) (g_machine_state := rfl) (g_machine_error := rfl) (g_machine_code := rfl) (g_machine_pc := rfl) (g_machine_calls := rfl) (g_machine_frames := rfl) (len_machine_code := rfl) (g_machine_code_count := rfl) (g_machine_code_first := rfl) (hc := (by decide))) (cwV 1 hT (gV ml_law_49 im_House_state se_House_state ini_House co_House_state) rfl rfl rfl (by decide +kernel) ⟨Nat.le_of_ble_eq_true rfl, Nat.le_of_ble_eq_true rfl⟩) ⟨fbS, va_recv hKc hPc (ci := 11) (q0 := 0) rfl rfl, fun U hU hW => ⟨rfl, by rw [hU]; exact hPc, va_K.moved hW.alike hKc⟩⟩ rfl rfl hl.1 rfl (lv_room (Nat.le_of_ble_eq_true rfl)) d_law_326 ⟨Nat.le_of_ble_eq_true rfl, Nat.le_of_ble_eq_true rfl⟩)) (fun r3 hr3 => ?_)
  refine lv_aload_n hx hb d_law_329 rfl (lv_at hl 1 rfl) ?_
  refine lv_aload_n hx hb d_law_330 rfl (lv_at hl 3 rfl) ?_
  refine lv_iload_n hx hb d_law_331 rfl (lv_at hl 0 rfl) ?_
  refine lv_iconst (v := 1) hx hb d_law_332 (by decide) ?_
  refine lv_iadd hx hb d_law_333 ?_
  refine lv_topi (fun x4 e4 => ?_)
  obtain rfl : x4 = nI ((i) + 1) := e4.trans (nI_add (i) 1)
  refine va_sld hx hb hX hbl hbA hS (vp_in_nI (by omega) (by omega)) d_law_334 ?_
  refine lv_topi (fun x5 e5 => ?_)
  obtain rfl : x5 = xs ((i) + 1) := e5.trans (congrArg xs (nI_clamp (by omega)))
  have hPc := hP.sub (ws' := [oc m0 12 fsM, ic (hm2 61) (km2 61) 12000 (fun _ => 0), ic (hm2 69) (km2 69) 41 (fun _ => 0)]) [5, 6, 7] rfl
  have hKc := hK.sub (tys' := [((km2 61), .int), ((km2 69), .int)]) [2, 3] rfl
  refine vp_callSi (va_Run.run (va_runV (As := [.int (xs ((i) + 1))]) (rest := [.int r3]) ⟨hx, hb, hml, hown, hT⟩ (c_Model_state l dC dI (h_this := m0) (h_first := (hm2 61)) (h_stepPlace := (hm2 69)) (fs_this := fsM) (v_this_state := 0) (v_this_errorNumber := 0) (v_this_counter := 0) (v_this_depth := 0) (k_first := (km2 61)) (f_first := (fun _ => 0)) (k_stepPlace := (km2 69)) (f_stepPlace := (fun _ => 0)) (p1 := (xs ((i) + 1))) (len_this := (by first | exact lenM | (simp only [List.length_set]; exact lenM))) (g_this_state := gM_state) (g_this_errorNumber := gM_errorNumber) (g_this_counter := gM_counter) (g_this_depth := gM_depth) (g_this_first := gM_first) (g_this_stepPlace := gM_stepPlace) (hc1 := (fun h => absurd h (by decide))) (hc2 := (fun h => absurd rfl h))) (cwV 1 hT (gV ml_law_52 im_Model_state se_Model_state ini_Model co_Model_state) rfl rfl rfl (by decide +kernel) ⟨Nat.le_of_ble_eq_true rfl, Nat.le_of_ble_eq_true rfl⟩) ⟨fbS, va_recv hKc hPc (ci := 12) (q0 := 0) rfl rfl, fun U hU hW => ⟨rfl, by rw [hU]; exact hPc, va_K.moved hW.alike hKc⟩⟩ rfl rfl hl.1 rfl (lv_room (Nat.le_of_ble_eq_true rfl)) d_law_335 ⟨Nat.le_of_ble_eq_true rfl, Nat.le_of_ble_eq_true rfl⟩)) (fun r6 hr6 => ?_)
  have hq : r3 = r6 := (by rw [hr3, hr6]; exact w_st _ _ _ _ _)
  refine lv_icmp_eq (tgt := 422) hx hb d_law_338 (by decide) (fun c7 => ?_) (fun c7 => absurd hq c7)
  exact kk _ _ _ hS (lv_sub hl [0, 1, 2, 3] rfl)
set_option maxHeartbeats 4000000 in
set_option maxRecDepth 100000 in
theorem law_c9 {p : Program} {e : Env} {s : State} {m : MethodId} {below : List Frame} {meth : Method} {c : Code} (l : Launch) {b L : Nat} {xs : Nat → Int32} {A : Nat → Prop} {ad av : Nat → Nat} {dC : Nat → ClassId} {dI : Nat → Nat → Nat} {Q : State → Prop} {H : Heap} {locs : List Loc} {ls : Array Slot} {i x0 m0 : Nat} {hm : Nat → Nat} {km : Nat → ClassId} {hm2 : Nat → Nat} {km2 : Nat → ClassId} (hx : p.tables.exec = Jvm.exec) (hb : c.code = code) (hml : c.maxLocals = 4) (hown : s.vm.findClass R_law = some m.cls) (hT : ∀ w ∈ lw_good, w.before #[Value.ref b] s = true) (hnw : nw_all s) (henv : env0 ad av A s s.heap) (hX : va_X b L xs s s.heap) (hbl : b < s.heap.size) (hbA : ¬ A b) (hL : L ≤ 3072) (hi : i + 6 ≤ L) (hA : ∀ q : Nat, s.heap.size ≤ q → A q) (hK : va_K (dC, dI) cls_all (tyH km ++ tysG mo_tt 99 km2) s) (hP : va_P (dC, dI) cls_all (wH hm km x0 ++ at_mo0 hm2 km2 m0) H) (hD : va_D A (wH hm km x0 ++ at_mo0 hm2 km2 m0)) (hS : va_S A s.heap H locs) (hl : lv_has ls 4 [(3, .int (nI i)), (2, .ref m0), (1, .ref x0), (0, .ref b)]) (kk : ∀ (H : Heap) (locs : List Loc) (ls : Array Slot), va_S A s.heap H locs → lv_has ls 4 [(3, .int (nI i)), (2, .ref m0), (1, .ref x0), (0, .ref b)] → W p l e room_1 s m #[Value.ref b] below meth c H locs 246 442275 Q (F0 m 422 ls [])) : W p l e room_1 s m #[Value.ref b] below meth c H locs 246 442275 Q (F0 m 343 ls []) := by
  have hP := hP.sub (ws' := [oc x0 11 ([.ref (hm 0), .int 0, .int 0, .int 0, .ref (hm 1), .ref (hm 14), .ref (hm 35), .ref (hm 40), .ref (hm 41), .ref (hm 50), .ref (hm 52)] : List Value), oc (hm 52) 4 ([.ref (hm 35), .ref (hm 14), .ref (hm 58), .ref (hm 53), .int 0, .ref (hm 54), .int 0, .ref (hm 55), .int 0, .int 0, .int 0, .int 0, .int 0, .int 0, .ref (hm 56), .int 0, .ref (hm 57), .int 0] : List Value), oc (hm 58) 5 ([.ref (hm 59), .ref (hm 60), .ref (hm 61), .int 0, .int 0, .int 0, .int 0, .int 0, .int 0, .ref (hm 62), .ref (hm 63), .ref (hm 64), .ref (hm 65), .ref (hm 66)] : List Value), oc m0 12 (fsG 153 mo_kd mo_ord 99 hm2 (va_up (va_up (fun _ => 0) 8 (-1)) 1 0) (fun _ => 0))]) [0, 53, 59, 68] rfl
  have hD := hD.sub (ws' := [oc x0 11 ([.ref (hm 0), .int 0, .int 0, .int 0, .ref (hm 1), .ref (hm 14), .ref (hm 35), .ref (hm 40), .ref (hm 41), .ref (hm 50), .ref (hm 52)] : List Value), oc (hm 52) 4 ([.ref (hm 35), .ref (hm 14), .ref (hm 58), .ref (hm 53), .int 0, .ref (hm 54), .int 0, .ref (hm 55), .int 0, .int 0, .int 0, .int 0, .int 0, .int 0, .ref (hm 56), .int 0, .ref (hm 57), .int 0] : List Value), oc (hm 58) 5 ([.ref (hm 59), .ref (hm 60), .ref (hm 61), .int 0, .int 0, .int 0, .int 0, .int 0, .int 0, .ref (hm 62), .ref (hm 63), .ref (hm 64), .ref (hm 65), .ref (hm 66)] : List Value), oc m0 12 (fsG 153 mo_kd mo_ord 99 hm2 (va_up (va_up (fun _ => 0) 8 (-1)) 1 0) (fun _ => 0))]) [0, 53, 59, 68] (by decide) rfl
  have hK := hK.sub (tys' := []) [] rfl
  obtain ⟨fsM, efM⟩ : ∃ z, z = (fsG 153 mo_kd mo_ord 99 hm2 (va_up (va_up (fun _ => 0) 8 (-1)) 1 0) (fun _ => 0)) := ⟨_, rfl⟩
  have lenM : fsM.length = 153 := by rw [efM]; exact fsG_len
  rw [← efM] at hP hD
  have gM_steps : fsM[101]? = some (.int 0) := by rw [efM]; exact (fsG_at (by decide)).trans rfl
  have gM_pages : fsM[130]? = some (.int 0) := by rw [efM]; exact (fsG_at (by decide)).trans rfl
  have gM_freePages : fsM[132]? = some (.int 0) := by rw [efM]; exact (fsG_at (by decide)).trans rfl
  have gM_alive : fsM[129]? = some (.int 0) := by rw [efM]; exact (fsG_at (by decide)).trans rfl
  have gM_depth : fsM[103]? = some (.int 0) := by rw [efM]; exact (fsG_at (by decide)).trans rfl
  have gM_prints : fsM[104]? = some (.int 0) := by rw [efM]; exact (fsG_at (by decide)).trans rfl
  have gM_made : fsM[105]? = some (.int 0) := by rw [efM]; exact (fsG_at (by decide)).trans rfl
  have gM_waiting : fsM[150]? = some (.int 0) := by rw [efM]; exact (fsG_at (by decide)).trans rfl
  have gM_errors : fsM[106]? = some (.int 0) := by rw [efM]; exact (fsG_at (by decide)).trans rfl
  have gM_touches : fsM[107]? = some (.int 0) := by rw [efM]; exact (fsG_at (by decide)).trans rfl
  have hP : va_P (dC, dI) cls_all [oc x0 11 ([.ref (hm 0), .int 0, .int 0, .int 0, .ref (hm 1), .ref (hm 14), .ref (hm 35), .ref (hm 40), .ref (hm 41), .ref (hm 50), .ref (hm 52)] : List Value), oc (hm 52) 4 ([.ref (hm 35), .ref (hm 14), .ref (hm 58), .ref (hm 53), .int 0, .ref (hm 54), .int 0, .ref (hm 55), .int 0, .int 0, .int 0, .int 0, .int 0, .int 0, .ref (hm 56), .int 0, .ref (hm 57), .int 0] : List Value), oc (hm 58) 5 ([.ref (hm 59), .ref (hm 60), .ref (hm 61), .int 0, .int 0, .int 0, .int 0, .int 0, .int 0, .ref (hm 62), .ref (hm 63), .ref (hm 64), .ref (hm 65), .ref (hm 66)] : List Value), oc m0 12 fsM] H := hP
  have hD : va_D A [oc x0 11 ([.ref (hm 0), .int 0, .int 0, .int 0, .ref (hm 1), .ref (hm 14), .ref (hm 35), .ref (hm 40), .ref (hm 41), .ref (hm 50), .ref (hm 52)] : List Value), oc (hm 52) 4 ([.ref (hm 35), .ref (hm 14), .ref (hm 58), .ref (hm 53), .int 0, .ref (hm 54), .int 0, .ref (hm 55), .int 0, .int 0, .int 0, .int 0, .int 0, .int 0, .ref (hm 56), .int 0, .ref (hm 57), .int 0] : List Value), oc (hm 58) 5 ([.ref (hm 59), .ref (hm 60), .ref (hm 61), .int 0, .int 0, .int 0, .int 0, .int 0, .int 0, .ref (hm 62), .ref (hm 63), .ref (hm 64), .ref (hm 65), .ref (hm 66)] : List Value), oc m0 12 fsM] := hD
  refine lv_aload_n hx hb d_law_343 rfl (lv_at hl 2 rfl) ?_
  refine lv_aload_n hx hb d_law_344 rfl (lv_at hl 3 rfl) ?_
  refine lv_iload_n hx hb d_law_345 rfl (lv_at hl 0 rfl) ?_
  refine lv_iconst (v := 1) hx hb d_law_346 (by decide) ?_
  refine lv_iadd hx hb d_law_347 ?_
  refine lv_topi (fun x1 e1 => ?_)
  obtain rfl : x1 = nI ((i) + 1) := e1.trans (nI_add (i) 1)
  refine va_sld hx hb hX hbl hbA hS (vp_in_nI (by omega) (by omega)) d_law_348 ?_
  refine lv_topi (fun x2 e2 => ?_)
  obtain rfl : x2 = xs ((i) + 1) := e2.trans (congrArg xs (nI_clamp (by omega)))
  have hPc := hP.sub (ws' := [oc x0 11 ([.ref (hm 0), .int 0, .int 0, .int 0, .ref (hm 1), .ref (hm 14), .ref (hm 35), .ref (hm 40), .ref (hm 41), .ref (hm 50), .ref (hm 52)] : List Value), oc (hm 52) 4 ([.ref (hm 35), .ref (hm 14), .ref (hm 58), .ref (hm 53), .int 0, .ref (hm 54), .int 0, .ref (hm 55), .int 0, .int 0, .int 0, .int 0, .int 0, .int 0, .ref (hm 56), .int 0, .ref (hm 57), .int 0] : List Value), oc (hm 58) 5 ([.ref (hm 59), .ref (hm 60), .ref (hm 61), .int 0, .int 0, .int 0, .int 0, .int 0, .int 0, .ref (hm 62), .ref (hm 63), .ref (hm 64), .ref (hm 65), .ref (hm 66)] : List Value)]) [0, 1, 2] rfl
  have hKc := hK.sub (tys' := []) [] rfl
  refine vp_callSi (va_Run.run (va_runV (As := [.int (xs ((i) + 1))]) (rest := []) ⟨hx, hb, hml, hown, hT⟩ (c_House_world l dC dI (h_this := x0) (h_machine := (hm 52)) (h_machine_memory := (hm 58)) (fs_this := ([.ref (hm 0), .int 0, .int 0, .int 0, .ref (hm 1), .ref (hm 14), .ref (hm 35), .ref (hm 40), .ref (hm 41), .ref (hm 50), .ref (hm 52)] : List Value)) (fs_machine := ([.ref (hm 35), .ref (hm 14), .ref (hm 58), .ref (hm 53), .int 0, .ref (hm 54), .int 0, .ref (hm 55), .int 0, .int 0, .int 0, .int 0, .int 0, .int 0, .ref (hm 56), .int 0, .ref (hm 57), .int 0] : List Value)) (v_machine_state := 0) (v_machine_stepsDone := 0) (v_machine_calls := 0) (v_machine_printedCount := 0) (v_machine_inputCount := 0) (v_machine_errorsCame := 0) (fs_machine_memory := ([.ref (hm 59), .ref (hm 60), .ref (hm 61), .int 0, .int 0, .int 0, .int 0, .int 0, .int 0, .ref (hm 62), .ref (hm 63), .ref (hm 64), .ref (hm 65), .ref (hm 66)] : List Value)) (v_machine_memory_inUse := 0) (v_machine_memory_regions := 0) (v_machine_memory_made := 0) (v_machine_memory_strays := 0) (p1 := (xs ((i) + 1))) (len_this := rfl) (g_this_machine := rfl) (len_machine := rfl) (g_machine_state := rfl) (g_machine_stepsDone := rfl) (g_machine_calls := rfl) (g_machine_printedCount := rfl) (g_machine_inputCount := rfl) (g_machine_errorsCame := rfl) (g_machine_memory := rfl) (len_machine_memory := rfl) (g_machine_memory_inUse := rfl) (g_machine_memory_regions := rfl) (g_machine_memory_made := rfl) (g_machine_memory_strays := rfl)) (cwV 1 hT (gV ml_law_53 im_House_world se_House_world ini_House co_House_world) rfl rfl rfl (by decide +kernel) ⟨Nat.le_of_ble_eq_true rfl, Nat.le_of_ble_eq_true rfl⟩) ⟨fbS, va_recv hKc hPc (ci := 11) (q0 := 0) rfl rfl, fun U hU hW => ⟨rfl, by rw [hU]; exact hPc, va_K.moved hW.alike hKc⟩⟩ rfl rfl hl.1 rfl (lv_room (Nat.le_of_ble_eq_true rfl)) d_law_349 ⟨Nat.le_of_ble_eq_true rfl, Nat.le_of_ble_eq_true rfl⟩)) (fun r3 hr3 => ?_)
  refine lv_aload_n hx hb d_law_352 rfl (lv_at hl 1 rfl) ?_
  refine lv_aload_n hx hb d_law_353 rfl (lv_at hl 3 rfl) ?_
  refine lv_iload_n hx hb d_law_354 rfl (lv_at hl 0 rfl) ?_
  refine lv_iconst (v := 1) hx hb d_law_355 (by decide) ?_
  refine lv_iadd hx hb d_law_356 ?_
  refine lv_topi (fun x4 e4 => ?_)
  obtain rfl : x4 = nI ((i) + 1) := e4.trans (nI_add (i) 1)
  refine va_sld hx hb hX hbl hbA hS (vp_in_nI (by omega) (by omega)) d_law_357 ?_
  refine lv_topi (fun x5 e5 => ?_)
  obtain rfl : x5 = xs ((i) + 1) := e5.trans (congrArg xs (nI_clamp (by omega)))
  have hPc := hP.sub (ws' := [oc m0 12 fsM]) [3] rfl
  have hKc := hK.sub (tys' := []) [] rfl
  refine vp_callSi (va_Run.run (va_runV (As := [.int (xs ((i) + 1))]) (rest := [.int r3]) ⟨hx, hb, hml, hown, hT⟩ (c_Model_world l dC dI (h_this := m0) (fs_this := fsM) (v_this_steps := 0) (v_this_pages := 0) (v_this_freePages := 0) (v_this_alive := 0) (v_this_depth := 0) (v_this_prints := 0) (v_this_made := 0) (v_this_waiting := 0) (v_this_errors := 0) (v_this_touches := 0) (p1 := (xs ((i) + 1))) (len_this := (by first | exact lenM | (simp only [List.length_set]; exact lenM))) (g_this_steps := gM_steps) (g_this_pages := gM_pages) (g_this_freePages := gM_freePages) (g_this_alive := gM_alive) (g_this_depth := gM_depth) (g_this_prints := gM_prints) (g_this_made := gM_made) (g_this_waiting := gM_waiting) (g_this_errors := gM_errors) (g_this_touches := gM_touches)) (cwV 1 hT (gV ml_law_56 im_Model_world se_Model_world ini_Model co_Model_world) rfl rfl rfl (by decide +kernel) ⟨Nat.le_of_ble_eq_true rfl, Nat.le_of_ble_eq_true rfl⟩) ⟨fbS, va_recv hKc hPc (ci := 12) (q0 := 0) rfl rfl, fun U hU hW => ⟨rfl, by rw [hU]; exact hPc, va_K.moved hW.alike hKc⟩⟩ rfl rfl hl.1 rfl (lv_room (Nat.le_of_ble_eq_true rfl)) d_law_358 ⟨Nat.le_of_ble_eq_true rfl, Nat.le_of_ble_eq_true rfl⟩)) (fun r6 hr6 => ?_)
  have hq : r3 = r6 := (by rw [hr3, hr6, if_pos (rfl : (0 : Int32) = 0)]; exact w_eq9 _)
  refine lv_icmp_eq (tgt := 422) hx hb d_law_361 (by decide) (fun c7 => ?_) (fun c7 => absurd hq c7)
  exact kk _ _ _ hS (lv_sub hl [0, 1, 2, 3] rfl)
set_option maxHeartbeats 4000000 in
set_option maxRecDepth 100000 in
theorem law_c10 {p : Program} {e : Env} {s : State} {m : MethodId} {below : List Frame} {meth : Method} {c : Code} (l : Launch) {b L : Nat} {xs : Nat → Int32} {A : Nat → Prop} {ad av : Nat → Nat} {dC : Nat → ClassId} {dI : Nat → Nat → Nat} {Q : State → Prop} {H : Heap} {locs : List Loc} {ls : Array Slot} {i x0 m0 : Nat} {hm : Nat → Nat} {km : Nat → ClassId} {hm2 : Nat → Nat} {km2 : Nat → ClassId} (hx : p.tables.exec = Jvm.exec) (hb : c.code = code) (hml : c.maxLocals = 4) (hown : s.vm.findClass R_law = some m.cls) (hT : ∀ w ∈ lw_good, w.before #[Value.ref b] s = true) (hnw : nw_all s) (henv : env0 ad av A s s.heap) (hX : va_X b L xs s s.heap) (hbl : b < s.heap.size) (hbA : ¬ A b) (hL : L ≤ 3072) (hi : i + 6 ≤ L) (hA : ∀ q : Nat, s.heap.size ≤ q → A q) (hK : va_K (dC, dI) cls_all (tyH km ++ tysG mo_tt 99 km2) s) (hP : va_P (dC, dI) cls_all (wH hm km x0 ++ at_mo0 hm2 km2 m0) H) (hD : va_D A (wH hm km x0 ++ at_mo0 hm2 km2 m0)) (hS : va_S A s.heap H locs) (hl : lv_has ls 4 [(3, .int (nI i)), (2, .ref m0), (1, .ref x0), (0, .ref b)]) (kk : ∀ (H : Heap) (locs : List Loc) (ls : Array Slot), va_S A s.heap H locs → lv_has ls 4 [(3, .int (nI i)), (2, .ref m0), (1, .ref x0), (0, .ref b)] → W p l e room_1 s m #[Value.ref b] below meth c H locs 246 442275 Q (F0 m 422 ls [])) : W p l e room_1 s m #[Value.ref b] below meth c H locs 246 442275 Q (F0 m 366 ls []) := by
  have hP := hP.sub (ws' := [oc x0 11 ([.ref (hm 0), .int 0, .int 0, .int 0, .ref (hm 1), .ref (hm 14), .ref (hm 35), .ref (hm 40), .ref (hm 41), .ref (hm 50), .ref (hm 52)] : List Value), oc (hm 52) 4 ([.ref (hm 35), .ref (hm 14), .ref (hm 58), .ref (hm 53), .int 0, .ref (hm 54), .int 0, .ref (hm 55), .int 0, .int 0, .int 0, .int 0, .int 0, .int 0, .ref (hm 56), .int 0, .ref (hm 57), .int 0] : List Value), oc (hm 58) 5 ([.ref (hm 59), .ref (hm 60), .ref (hm 61), .int 0, .int 0, .int 0, .int 0, .int 0, .int 0, .ref (hm 62), .ref (hm 63), .ref (hm 64), .ref (hm 65), .ref (hm 66)] : List Value), ic (hm 62) (km 62) 321 (fun _ => 0), ic (hm 63) (km 63) 321 (fun _ => 0), ic (hm 64) (km 64) 321 (fun _ => 0), oc m0 12 (fsG 153 mo_kd mo_ord 99 hm2 (va_up (va_up (fun _ => 0) 8 (-1)) 1 0) (fun _ => 0)), ic (hm2 82) (km2 82) 400 (fun _ => 0), ic (hm2 84) (km2 84) 400 (fun _ => 0), ic (hm2 85) (km2 85) 400 (fun _ => 0)]) [0, 53, 59, 63, 64, 65, 68, 151, 153, 154] rfl
  have hD := hD.sub (ws' := [oc x0 11 ([.ref (hm 0), .int 0, .int 0, .int 0, .ref (hm 1), .ref (hm 14), .ref (hm 35), .ref (hm 40), .ref (hm 41), .ref (hm 50), .ref (hm 52)] : List Value), oc (hm 52) 4 ([.ref (hm 35), .ref (hm 14), .ref (hm 58), .ref (hm 53), .int 0, .ref (hm 54), .int 0, .ref (hm 55), .int 0, .int 0, .int 0, .int 0, .int 0, .int 0, .ref (hm 56), .int 0, .ref (hm 57), .int 0] : List Value), oc (hm 58) 5 ([.ref (hm 59), .ref (hm 60), .ref (hm 61), .int 0, .int 0, .int 0, .int 0, .int 0, .int 0, .ref (hm 62), .ref (hm 63), .ref (hm 64), .ref (hm 65), .ref (hm 66)] : List Value), ic (hm 62) (km 62) 321 (fun _ => 0), ic (hm 63) (km 63) 321 (fun _ => 0), ic (hm 64) (km 64) 321 (fun _ => 0), oc m0 12 (fsG 153 mo_kd mo_ord 99 hm2 (va_up (va_up (fun _ => 0) 8 (-1)) 1 0) (fun _ => 0)), ic (hm2 82) (km2 82) 400 (fun _ => 0), ic (hm2 84) (km2 84) 400 (fun _ => 0), ic (hm2 85) (km2 85) 400 (fun _ => 0)]) [0, 53, 59, 63, 64, 65, 68, 151, 153, 154] (by decide) rfl
  have hK := hK.sub (tys' := [((km 62), .int), ((km 63), .int), ((km 64), .int), ((km2 82), .int), ((km2 84), .int), ((km2 85), .int)]) [51, 52, 53, 138, 140, 141] rfl
  obtain ⟨fsM, efM⟩ : ∃ z, z = (fsG 153 mo_kd mo_ord 99 hm2 (va_up (va_up (fun _ => 0) 8 (-1)) 1 0) (fun _ => 0)) := ⟨_, rfl⟩
  have lenM : fsM.length = 153 := by rw [efM]; exact fsG_len
  rw [← efM] at hP hD
  have gM_alive : fsM[129]? = some (.int 0) := by rw [efM]; exact (fsG_at (by decide)).trans rfl
  have gM_pagesOf : fsM[133]? = some (.ref (hm2 82)) := by rw [efM]; exact (fsG_at (by decide)).trans rfl
  have gM_wordsIn : fsM[135]? = some (.ref (hm2 84)) := by rw [efM]; exact (fsG_at (by decide)).trans rfl
  have gM_objectsIn : fsM[136]? = some (.ref (hm2 85)) := by rw [efM]; exact (fsG_at (by decide)).trans rfl
  have hP : va_P (dC, dI) cls_all [oc x0 11 ([.ref (hm 0), .int 0, .int 0, .int 0, .ref (hm 1), .ref (hm 14), .ref (hm 35), .ref (hm 40), .ref (hm 41), .ref (hm 50), .ref (hm 52)] : List Value), oc (hm 52) 4 ([.ref (hm 35), .ref (hm 14), .ref (hm 58), .ref (hm 53), .int 0, .ref (hm 54), .int 0, .ref (hm 55), .int 0, .int 0, .int 0, .int 0, .int 0, .int 0, .ref (hm 56), .int 0, .ref (hm 57), .int 0] : List Value), oc (hm 58) 5 ([.ref (hm 59), .ref (hm 60), .ref (hm 61), .int 0, .int 0, .int 0, .int 0, .int 0, .int 0, .ref (hm 62), .ref (hm 63), .ref (hm 64), .ref (hm 65), .ref (hm 66)] : List Value), ic (hm 62) (km 62) 321 (fun _ => 0), ic (hm 63) (km 63) 321 (fun _ => 0), ic (hm 64) (km 64) 321 (fun _ => 0), oc m0 12 fsM, ic (hm2 82) (km2 82) 400 (fun _ => 0), ic (hm2 84) (km2 84) 400 (fun _ => 0), ic (hm2 85) (km2 85) 400 (fun _ => 0)] H := hP
  have hD : va_D A [oc x0 11 ([.ref (hm 0), .int 0, .int 0, .int 0, .ref (hm 1), .ref (hm 14), .ref (hm 35), .ref (hm 40), .ref (hm 41), .ref (hm 50), .ref (hm 52)] : List Value), oc (hm 52) 4 ([.ref (hm 35), .ref (hm 14), .ref (hm 58), .ref (hm 53), .int 0, .ref (hm 54), .int 0, .ref (hm 55), .int 0, .int 0, .int 0, .int 0, .int 0, .int 0, .ref (hm 56), .int 0, .ref (hm 57), .int 0] : List Value), oc (hm 58) 5 ([.ref (hm 59), .ref (hm 60), .ref (hm 61), .int 0, .int 0, .int 0, .int 0, .int 0, .int 0, .ref (hm 62), .ref (hm 63), .ref (hm 64), .ref (hm 65), .ref (hm 66)] : List Value), ic (hm 62) (km 62) 321 (fun _ => 0), ic (hm 63) (km 63) 321 (fun _ => 0), ic (hm 64) (km 64) 321 (fun _ => 0), oc m0 12 fsM, ic (hm2 82) (km2 82) 400 (fun _ => 0), ic (hm2 84) (km2 84) 400 (fun _ => 0), ic (hm2 85) (km2 85) 400 (fun _ => 0)] := hD
  refine lv_aload_n hx hb d_law_366 rfl (lv_at hl 2 rfl) ?_
  refine lv_aload_n hx hb d_law_367 rfl (lv_at hl 3 rfl) ?_
  refine lv_iload_n hx hb d_law_368 rfl (lv_at hl 0 rfl) ?_
  refine lv_iconst (v := 1) hx hb d_law_369 (by decide) ?_
  refine lv_iadd hx hb d_law_370 ?_
  refine lv_topi (fun x1 e1 => ?_)
  obtain rfl : x1 = nI ((i) + 1) := e1.trans (nI_add (i) 1)
  refine va_sld hx hb hX hbl hbA hS (vp_in_nI (by omega) (by omega)) d_law_371 ?_
  refine lv_topi (fun x2 e2 => ?_)
  obtain rfl : x2 = xs ((i) + 1) := e2.trans (congrArg xs (nI_clamp (by omega)))
  refine lv_aload_n hx hb d_law_372 rfl (lv_at hl 3 rfl) ?_
  refine lv_iload_n hx hb d_law_373 rfl (lv_at hl 0 rfl) ?_
  refine lv_iconst (v := 2) hx hb d_law_374 (by decide) ?_
  refine lv_iadd hx hb d_law_375 ?_
  refine lv_topi (fun x3 e3 => ?_)
  obtain rfl : x3 = nI ((i) + 2) := e3.trans (nI_add (i) 2)
  refine va_sld hx hb hX hbl hbA hS (vp_in_nI (by omega) (by omega)) d_law_376 ?_
  refine lv_topi (fun x4 e4 => ?_)
  obtain rfl : x4 = xs ((i) + 2) := e4.trans (congrArg xs (nI_clamp (by omega)))
  have hPc := hP.sub (ws' := [oc x0 11 ([.ref (hm 0), .int 0, .int 0, .int 0, .ref (hm 1), .ref (hm 14), .ref (hm 35), .ref (hm 40), .ref (hm 41), .ref (hm 50), .ref (hm 52)] : List Value), oc (hm 52) 4 ([.ref (hm 35), .ref (hm 14), .ref (hm 58), .ref (hm 53), .int 0, .ref (hm 54), .int 0, .ref (hm 55), .int 0, .int 0, .int 0, .int 0, .int 0, .int 0, .ref (hm 56), .int 0, .ref (hm 57), .int 0] : List Value), oc (hm 58) 5 ([.ref (hm 59), .ref (hm 60), .ref (hm 61), .int 0, .int 0, .int 0, .int 0, .int 0, .int 0, .ref (hm 62), .ref (hm 63), .ref (hm 64), .ref (hm 65), .ref (hm 66)] : List Value), ic (hm 62) (km 62) 321 (fun _ => 0), ic (hm 63) (km 63) 321 (fun _ => 0), ic (hm 64) (km 64) 321 (fun _ => 0)]) [0, 1, 2, 3, 4, 5] rfl
  have hKc := hK.sub (tys' := [((km 62), .int), ((km 63), .int), ((km 64), .int)]) [0, 1, 2] rfl
  refine vp_callSi (va_Run.run (va_runV (As := [.int (xs ((i) + 1)), .int (xs ((i) + 2))]) (rest := []) ⟨hx, hb, hml, hown, hT⟩ (c_House_region l dC dI (h_this := x0) (h_machine := (hm 52)) (h_machine_memory := (hm 58)) (h_machine_memory_pagesOf := (hm 62)) (h_machine_memory_wordsOf := (hm 63)) (h_machine_memory_objectsOf := (hm 64)) (fs_this := ([.ref (hm 0), .int 0, .int 0, .int 0, .ref (hm 1), .ref (hm 14), .ref (hm 35), .ref (hm 40), .ref (hm 41), .ref (hm 50), .ref (hm 52)] : List Value)) (fs_machine := ([.ref (hm 35), .ref (hm 14), .ref (hm 58), .ref (hm 53), .int 0, .ref (hm 54), .int 0, .ref (hm 55), .int 0, .int 0, .int 0, .int 0, .int 0, .int 0, .ref (hm 56), .int 0, .ref (hm 57), .int 0] : List Value)) (v_machine_state := 0) (fs_machine_memory := ([.ref (hm 59), .ref (hm 60), .ref (hm 61), .int 0, .int 0, .int 0, .int 0, .int 0, .int 0, .ref (hm 62), .ref (hm 63), .ref (hm 64), .ref (hm 65), .ref (hm 66)] : List Value)) (v_machine_memory_regions := 0) (k_machine_memory_pagesOf := (km 62)) (f_machine_memory_pagesOf := (fun _ => 0)) (k_machine_memory_wordsOf := (km 63)) (f_machine_memory_wordsOf := (fun _ => 0)) (k_machine_memory_objectsOf := (km 64)) (f_machine_memory_objectsOf := (fun _ => 0)) (p1 := (xs ((i) + 1))) (p2 := (xs ((i) + 2))) (len_this := rfl) (g_this_machine := rfl) (len_machine := rfl) (g_machine_state := rfl) (g_machine_memory := rfl) (len_machine_memory := rfl) (g_machine_memory_regions := rfl) (g_machine_memory_pagesOf := rfl) (g_machine_memory_wordsOf := rfl) (g_machine_memory_objectsOf := rfl) (hrg := (by decide))) (cwV 2 hT (gV ml_law_57 im_House_region se_House_region ini_House co_House_region) rfl rfl rfl (by decide +kernel) ⟨Nat.le_of_ble_eq_true rfl, Nat.le_of_ble_eq_true rfl⟩) ⟨fbS, va_recv hKc hPc (ci := 11) (q0 := 0) rfl rfl, fun U hU hW => ⟨rfl, by rw [hU]; exact hPc, va_K.moved hW.alike hKc⟩⟩ rfl rfl hl.1 rfl (lv_room (Nat.le_of_ble_eq_true rfl)) d_law_377 ⟨Nat.le_of_ble_eq_true rfl, Nat.le_of_ble_eq_true rfl⟩)) (fun r5 hr5 => ?_)
  refine lv_aload_n hx hb d_law_380 rfl (lv_at hl 1 rfl) ?_
  refine lv_aload_n hx hb d_law_381 rfl (lv_at hl 3 rfl) ?_
  refine lv_iload_n hx hb d_law_382 rfl (lv_at hl 0 rfl) ?_
  refine lv_iconst (v := 1) hx hb d_law_383 (by decide) ?_
  refine lv_iadd hx hb d_law_384 ?_
  refine lv_topi (fun x6 e6 => ?_)
  obtain rfl : x6 = nI ((i) + 1) := e6.trans (nI_add (i) 1)
  refine va_sld hx hb hX hbl hbA hS (vp_in_nI (by omega) (by omega)) d_law_385 ?_
  refine lv_topi (fun x7 e7 => ?_)
  obtain rfl : x7 = xs ((i) + 1) := e7.trans (congrArg xs (nI_clamp (by omega)))
  refine lv_aload_n hx hb d_law_386 rfl (lv_at hl 3 rfl) ?_
  refine lv_iload_n hx hb d_law_387 rfl (lv_at hl 0 rfl) ?_
  refine lv_iconst (v := 2) hx hb d_law_388 (by decide) ?_
  refine lv_iadd hx hb d_law_389 ?_
  refine lv_topi (fun x8 e8 => ?_)
  obtain rfl : x8 = nI ((i) + 2) := e8.trans (nI_add (i) 2)
  refine va_sld hx hb hX hbl hbA hS (vp_in_nI (by omega) (by omega)) d_law_390 ?_
  refine lv_topi (fun x9 e9 => ?_)
  obtain rfl : x9 = xs ((i) + 2) := e9.trans (congrArg xs (nI_clamp (by omega)))
  have hPc := hP.sub (ws' := [oc m0 12 fsM, ic (hm2 82) (km2 82) 400 (fun _ => 0), ic (hm2 84) (km2 84) 400 (fun _ => 0), ic (hm2 85) (km2 85) 400 (fun _ => 0)]) [6, 7, 8, 9] rfl
  have hKc := hK.sub (tys' := [((km2 82), .int), ((km2 84), .int), ((km2 85), .int)]) [3, 4, 5] rfl
  refine vp_callSi (va_Run.run (va_runV (As := [.int (xs ((i) + 1)), .int (xs ((i) + 2))]) (rest := [.int r5]) ⟨hx, hb, hml, hown, hT⟩ (c_Model_region l dC dI (h_this := m0) (h_pagesOf := (hm2 82)) (h_wordsIn := (hm2 84)) (h_objectsIn := (hm2 85)) (fs_this := fsM) (v_this_alive := 0) (k_pagesOf := (km2 82)) (f_pagesOf := (fun _ => 0)) (k_wordsIn := (km2 84)) (f_wordsIn := (fun _ => 0)) (k_objectsIn := (km2 85)) (f_objectsIn := (fun _ => 0)) (p1 := (xs ((i) + 1))) (p2 := (xs ((i) + 2))) (len_this := (by first | exact lenM | (simp only [List.length_set]; exact lenM))) (g_this_alive := gM_alive) (g_this_pagesOf := gM_pagesOf) (g_this_wordsIn := gM_wordsIn) (g_this_objectsIn := gM_objectsIn) (hal := (by decide))) (cwV 2 hT (gV ml_law_61 im_Model_region se_Model_region ini_Model co_Model_region) rfl rfl rfl (by decide +kernel) ⟨Nat.le_of_ble_eq_true rfl, Nat.le_of_ble_eq_true rfl⟩) ⟨fbS, va_recv hKc hPc (ci := 12) (q0 := 0) rfl rfl, fun U hU hW => ⟨rfl, by rw [hU]; exact hPc, va_K.moved hW.alike hKc⟩⟩ rfl rfl hl.1 rfl (lv_room (Nat.le_of_ble_eq_true rfl)) d_law_391 ⟨Nat.le_of_ble_eq_true rfl, Nat.le_of_ble_eq_true rfl⟩)) (fun r10 hr10 => ?_)
  have hq : r5 = r10 := (hr5.trans (if_pos (Or.inl rfl))).trans (hr10.trans (if_pos (w_any _))).symm
  refine lv_icmp_eq (tgt := 422) hx hb d_law_394 (by decide) (fun c11 => ?_) (fun c11 => absurd hq c11)
  exact kk _ _ _ hS (lv_sub hl [0, 1, 2, 3] rfl)
set_option maxHeartbeats 4000000 in
set_option maxRecDepth 100000 in
theorem law_c11 {p : Program} {e : Env} {s : State} {m : MethodId} {below : List Frame} {meth : Method} {c : Code} (l : Launch) {b L : Nat} {xs : Nat → Int32} {A : Nat → Prop} {ad av : Nat → Nat} {dC : Nat → ClassId} {dI : Nat → Nat → Nat} {Q : State → Prop} {H : Heap} {locs : List Loc} {ls : Array Slot} {i x0 m0 : Nat} {hm : Nat → Nat} {km : Nat → ClassId} {hm2 : Nat → Nat} {km2 : Nat → ClassId} (hx : p.tables.exec = Jvm.exec) (hb : c.code = code) (hml : c.maxLocals = 4) (hown : s.vm.findClass R_law = some m.cls) (hT : ∀ w ∈ lw_good, w.before #[Value.ref b] s = true) (hnw : nw_all s) (henv : env0 ad av A s s.heap) (hX : va_X b L xs s s.heap) (hbl : b < s.heap.size) (hbA : ¬ A b) (hL : L ≤ 3072) (hi : i + 6 ≤ L) (hA : ∀ q : Nat, s.heap.size ≤ q → A q) (hK : va_K (dC, dI) cls_all (tyH km ++ tysG mo_tt 99 km2) s) (hP : va_P (dC, dI) cls_all (wH hm km x0 ++ at_mo0 hm2 km2 m0) H) (hD : va_D A (wH hm km x0 ++ at_mo0 hm2 km2 m0)) (hS : va_S A s.heap H locs) (hl : lv_has ls 4 [(3, .int (nI i)), (2, .ref m0), (1, .ref x0), (0, .ref b)]) (kk : ∀ (H : Heap) (locs : List Loc) (ls : Array Slot), va_S A s.heap H locs → lv_has ls 4 [(3, .int (nI i)), (2, .ref m0), (1, .ref x0), (0, .ref b)] → W p l e room_1 s m #[Value.ref b] below meth c H locs 246 442275 Q (F0 m 422 ls [])) : W p l e room_1 s m #[Value.ref b] below meth c H locs 246 442275 Q (F0 m 399 ls []) := by
  have hP := hP.sub (ws' := [oc x0 11 ([.ref (hm 0), .int 0, .int 0, .int 0, .ref (hm 1), .ref (hm 14), .ref (hm 35), .ref (hm 40), .ref (hm 41), .ref (hm 50), .ref (hm 52)] : List Value), oc (hm 52) 4 ([.ref (hm 35), .ref (hm 14), .ref (hm 58), .ref (hm 53), .int 0, .ref (hm 54), .int 0, .ref (hm 55), .int 0, .int 0, .int 0, .int 0, .int 0, .int 0, .ref (hm 56), .int 0, .ref (hm 57), .int 0] : List Value), ic (hm 57) (km 57) 300 (fun _ => 0), oc m0 12 (fsG 153 mo_kd mo_ord 99 hm2 (va_up (va_up (fun _ => 0) 8 (-1)) 1 0) (fun _ => 0)), ic (hm2 98) (km2 98) 300 (fun _ => 0)]) [0, 53, 58, 68, 167] rfl
  have hD := hD.sub (ws' := [oc x0 11 ([.ref (hm 0), .int 0, .int 0, .int 0, .ref (hm 1), .ref (hm 14), .ref (hm 35), .ref (hm 40), .ref (hm 41), .ref (hm 50), .ref (hm 52)] : List Value), oc (hm 52) 4 ([.ref (hm 35), .ref (hm 14), .ref (hm 58), .ref (hm 53), .int 0, .ref (hm 54), .int 0, .ref (hm 55), .int 0, .int 0, .int 0, .int 0, .int 0, .int 0, .ref (hm 56), .int 0, .ref (hm 57), .int 0] : List Value), ic (hm 57) (km 57) 300 (fun _ => 0), oc m0 12 (fsG 153 mo_kd mo_ord 99 hm2 (va_up (va_up (fun _ => 0) 8 (-1)) 1 0) (fun _ => 0)), ic (hm2 98) (km2 98) 300 (fun _ => 0)]) [0, 53, 58, 68, 167] (by decide) rfl
  have hK := hK.sub (tys' := [((km 57), .int), ((km2 98), .int)]) [47, 154] rfl
  obtain ⟨fsM, efM⟩ : ∃ z, z = (fsG 153 mo_kd mo_ord 99 hm2 (va_up (va_up (fun _ => 0) 8 (-1)) 1 0) (fun _ => 0)) := ⟨_, rfl⟩
  have lenM : fsM.length = 153 := by rw [efM]; exact fsG_len
  rw [← efM] at hP hD
  have gM_prints : fsM[104]? = some (.int 0) := by rw [efM]; exact (fsG_at (by decide)).trans rfl
  have gM_printed : fsM[152]? = some (.ref (hm2 98)) := by rw [efM]; exact (fsG_at (by decide)).trans rfl
  have hP : va_P (dC, dI) cls_all [oc x0 11 ([.ref (hm 0), .int 0, .int 0, .int 0, .ref (hm 1), .ref (hm 14), .ref (hm 35), .ref (hm 40), .ref (hm 41), .ref (hm 50), .ref (hm 52)] : List Value), oc (hm 52) 4 ([.ref (hm 35), .ref (hm 14), .ref (hm 58), .ref (hm 53), .int 0, .ref (hm 54), .int 0, .ref (hm 55), .int 0, .int 0, .int 0, .int 0, .int 0, .int 0, .ref (hm 56), .int 0, .ref (hm 57), .int 0] : List Value), ic (hm 57) (km 57) 300 (fun _ => 0), oc m0 12 fsM, ic (hm2 98) (km2 98) 300 (fun _ => 0)] H := hP
  have hD : va_D A [oc x0 11 ([.ref (hm 0), .int 0, .int 0, .int 0, .ref (hm 1), .ref (hm 14), .ref (hm 35), .ref (hm 40), .ref (hm 41), .ref (hm 50), .ref (hm 52)] : List Value), oc (hm 52) 4 ([.ref (hm 35), .ref (hm 14), .ref (hm 58), .ref (hm 53), .int 0, .ref (hm 54), .int 0, .ref (hm 55), .int 0, .int 0, .int 0, .int 0, .int 0, .int 0, .ref (hm 56), .int 0, .ref (hm 57), .int 0] : List Value), ic (hm 57) (km 57) 300 (fun _ => 0), oc m0 12 fsM, ic (hm2 98) (km2 98) 300 (fun _ => 0)] := hD
  refine lv_aload_n hx hb d_law_399 rfl (lv_at hl 2 rfl) ?_
  refine lv_aload_n hx hb d_law_400 rfl (lv_at hl 3 rfl) ?_
  refine lv_iload_n hx hb d_law_401 rfl (lv_at hl 0 rfl) ?_
  refine lv_iconst (v := 1) hx hb d_law_402 (by decide) ?_
  refine lv_iadd hx hb d_law_403 ?_
  refine lv_topi (fun x1 e1 => ?_)
  obtain rfl : x1 = nI ((i) + 1) := e1.trans (nI_add (i) 1)
  refine va_sld hx hb hX hbl hbA hS (vp_in_nI (by omega) (by omega)) d_law_404 ?_
  refine lv_topi (fun x2 e2 => ?_)
  obtain rfl : x2 = xs ((i) + 1) := e2.trans (congrArg xs (nI_clamp (by omega)))
  have hPc := hP.sub (ws' := [oc x0 11 ([.ref (hm 0), .int 0, .int 0, .int 0, .ref (hm 1), .ref (hm 14), .ref (hm 35), .ref (hm 40), .ref (hm 41), .ref (hm 50), .ref (hm 52)] : List Value), oc (hm 52) 4 ([.ref (hm 35), .ref (hm 14), .ref (hm 58), .ref (hm 53), .int 0, .ref (hm 54), .int 0, .ref (hm 55), .int 0, .int 0, .int 0, .int 0, .int 0, .int 0, .ref (hm 56), .int 0, .ref (hm 57), .int 0] : List Value), ic (hm 57) (km 57) 300 (fun _ => 0)]) [0, 1, 2] rfl
  have hKc := hK.sub (tys' := [((km 57), .int)]) [0] rfl
  refine vp_callSi (va_Run.run (va_runV (As := [.int (xs ((i) + 1))]) (rest := []) ⟨hx, hb, hml, hown, hT⟩ (c_House_printed l dC dI (h_this := x0) (h_machine := (hm 52)) (h_machine_printed := (hm 57)) (fs_this := ([.ref (hm 0), .int 0, .int 0, .int 0, .ref (hm 1), .ref (hm 14), .ref (hm 35), .ref (hm 40), .ref (hm 41), .ref (hm 50), .ref (hm 52)] : List Value)) (fs_machine := ([.ref (hm 35), .ref (hm 14), .ref (hm 58), .ref (hm 53), .int 0, .ref (hm 54), .int 0, .ref (hm 55), .int 0, .int 0, .int 0, .int 0, .int 0, .int 0, .ref (hm 56), .int 0, .ref (hm 57), .int 0] : List Value)) (v_machine_state := 0) (v_machine_printedCount := 0) (k_machine_printed := (km 57)) (f_machine_printed := (fun _ => 0)) (p1 := (xs ((i) + 1))) (len_this := rfl) (g_this_machine := rfl) (len_machine := rfl) (g_machine_state := rfl) (g_machine_printedCount := rfl) (g_machine_printed := rfl)) (cwV 1 hT (gV ml_law_62 im_House_printed se_House_printed ini_House co_House_printed) rfl rfl rfl (by decide +kernel) ⟨Nat.le_of_ble_eq_true rfl, Nat.le_of_ble_eq_true rfl⟩) ⟨fbS, va_recv hKc hPc (ci := 11) (q0 := 0) rfl rfl, fun U hU hW => ⟨rfl, by rw [hU]; exact hPc, va_K.moved hW.alike hKc⟩⟩ rfl rfl hl.1 rfl (lv_room (Nat.le_of_ble_eq_true rfl)) d_law_405 ⟨Nat.le_of_ble_eq_true rfl, Nat.le_of_ble_eq_true rfl⟩)) (fun r3 hr3 => ?_)
  refine lv_aload_n hx hb d_law_408 rfl (lv_at hl 1 rfl) ?_
  refine lv_aload_n hx hb d_law_409 rfl (lv_at hl 3 rfl) ?_
  refine lv_iload_n hx hb d_law_410 rfl (lv_at hl 0 rfl) ?_
  refine lv_iconst (v := 1) hx hb d_law_411 (by decide) ?_
  refine lv_iadd hx hb d_law_412 ?_
  refine lv_topi (fun x4 e4 => ?_)
  obtain rfl : x4 = nI ((i) + 1) := e4.trans (nI_add (i) 1)
  refine va_sld hx hb hX hbl hbA hS (vp_in_nI (by omega) (by omega)) d_law_413 ?_
  refine lv_topi (fun x5 e5 => ?_)
  obtain rfl : x5 = xs ((i) + 1) := e5.trans (congrArg xs (nI_clamp (by omega)))
  have hPc := hP.sub (ws' := [oc m0 12 fsM, ic (hm2 98) (km2 98) 300 (fun _ => 0)]) [3, 4] rfl
  have hKc := hK.sub (tys' := [((km2 98), .int)]) [1] rfl
  refine vp_callSi (va_Run.run (va_runV (As := [.int (xs ((i) + 1))]) (rest := [.int r3]) ⟨hx, hb, hml, hown, hT⟩ (c_Model_printed l dC dI (h_this := m0) (h_printed := (hm2 98)) (fs_this := fsM) (v_this_prints := 0) (k_printed := (km2 98)) (f_printed := (fun _ => 0)) (p1 := (xs ((i) + 1))) (len_this := (by first | exact lenM | (simp only [List.length_set]; exact lenM))) (g_this_prints := gM_prints) (g_this_printed := gM_printed)) (cwV 1 hT (gV ml_law_65 im_Model_printed se_Model_printed ini_Model co_Model_printed) rfl rfl rfl (by decide +kernel) ⟨Nat.le_of_ble_eq_true rfl, Nat.le_of_ble_eq_true rfl⟩) ⟨fbS, va_recv hKc hPc (ci := 12) (q0 := 0) rfl rfl, fun U hU hW => ⟨rfl, by rw [hU]; exact hPc, va_K.moved hW.alike hKc⟩⟩ rfl rfl hl.1 rfl (lv_room (Nat.le_of_ble_eq_true rfl)) d_law_414 ⟨Nat.le_of_ble_eq_true rfl, Nat.le_of_ble_eq_true rfl⟩)) (fun r6 hr6 => ?_)
  have hq : r3 = r6 := (hr3.trans (if_pos (Or.inl rfl))).trans (hr6.trans (if_pos (w_any _))).symm
  refine lv_icmp_eq (tgt := 422) hx hb d_law_417 (by decide) (fun c7 => ?_) (fun c7 => absurd hq c7)
  exact kk _ _ _ hS (lv_sub hl [0, 1, 2, 3] rfl)
