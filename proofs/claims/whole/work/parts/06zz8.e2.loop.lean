/-! the law's loop over two graphs */
-/
set_option maxHeartbeats 4000000 in
set_option maxRecDepth 100000 in
theorem law_loop {p : Program} {e : Env} {s : State} {m : MethodId} {below : List Frame} {meth : Method} {c : Code} (l : Launch) {b L : Nat} {xs : Nat → Int32} {A : Nat → Prop} {ea ev : Nat → Nat} {dC : Nat → ClassId} {dI : Nat → Nat → Nat} {Q : State → Prop} {adH adM : Nat → Nat} {kmH kmM : Nat → ClassId} {I : Nat → gSt → gSt → Prop} (hx : p.tables.exec = Jvm.exec) (hb : c.code = code) (hml : c.maxLocals = 4) (hown : s.vm.findClass R_law = some m.cls) (hT : ∀ w ∈ lw_good, w.before #[Value.ref b] s = true) (hnw : nw_all s) (henv : env0 ea ev A s s.heap) (hX : va_X b L xs s s.heap) (hbl : b < s.heap.size) (hbA : ¬ A b) (hL : L ≤ 3072) (hA : ∀ q : Nat, s.heap.size ≤ q → A q) (hKH : va_K (dC, dI) cls_all (gT LH kmH) s) (hKM : va_K (dC, dI) cls_all (gT LM kmM) s) (apt : Apt (gO LH + gA LH) (gO LM + gA LM) adH adM) (stp : LStp l s b dC dI ea ev adH adM kmH kmM I) (fin : ∀ (H : Heap) (locs : List Loc) (ls : Array Slot), va_S A s.heap H locs → W p l e room_1 s m #[Value.ref b] below meth c H locs 246 442276 Q (F0 m 428 ls [])) : ∀ (r i n : Nat) (M T : gSt) (H : Heap) (locs : List Loc) (ls : Array Slot), L < i + 6 * r + 6 → i ≤ L + 6 → n + r ≤ 599 → I n M T → va_P (dC, dI) cls_all (gW LH adH kmH T) H → va_D A (gW LH adH kmH T) → va_P (dC, dI) cls_all (gW LM adM kmM M) H → va_D A (gW LM adM kmM M) → Blw (gO LH + gA LH) adH H.size → Blw (gO LM + gA LM) adM H.size → va_S A s.heap H locs → lv_has ls 4 [(3, .int (nI i)), (2, .ref (adM 0)), (1, .ref (adH 0)), (0, .ref b)] → W p l e room_1 s m #[Value.ref b] below meth c H locs 246 442276 Q (F0 m 18 ls []) := by
  intro r
  induction r with
  | zero =>
    intro i n M T H locs ls hr hi hn inv hPH hDH hPM hDM bH bM hS hl
    refine lv_iload_n hx hb d_law_18 rfl (lv_at hl 0 rfl) ?_
    refine lv_aload_n hx hb d_law_19 rfl (lv_at hl 3 rfl) ?_
    refine va_slen hx hb hX hbl hbA hS d_law_20 ?_
    refine lv_bipush (v := 6) hx hb d_law_21 (by decide) ?_
    refine lv_isub hx hb d_law_23 ?_
    refine lv_icmp_gt (tgt := 428) hx hb d_law_24 (by decide) (fun _ => fin _ _ _ hS) (fun c1 => absurd ?_ c1)
    exact lo_gt hL hi (by omega)
  | succ r ih =>
    intro i n M T H locs ls hr hi hn inv hPH hDH hPM hDM bH bM hS hl
    refine lv_iload_n hx hb d_law_18 rfl (lv_at hl 0 rfl) ?_
    refine lv_aload_n hx hb d_law_19 rfl (lv_at hl 3 rfl) ?_
    refine va_slen hx hb hX hbl hbA hS d_law_20 ?_
    refine lv_bipush (v := 6) hx hb d_law_21 (by decide) ?_
    refine lv_isub hx hb d_law_23 ?_
    refine lv_icmp_gt (tgt := 428) hx hb d_law_24 (by decide) (fun _ => fin _ _ _ hS) (fun c1 => ?_)
    have h6 : i + 6 ≤ L := lo_le hL hi c1
    have kk : ∀ (M T : gSt) (H : Heap) (locs : List Loc) (ls : Array Slot), I (n + 1) M T → va_P (dC, dI) cls_all (gW LH adH kmH T) H → va_D A (gW LH adH kmH T) → va_P (dC, dI) cls_all (gW LM adM kmM M) H → va_D A (gW LM adM kmM M) → Blw (gO LH + gA LH) adH H.size → Blw (gO LM + gA LM) adM H.size → va_S A s.heap H locs → lv_has ls 4 [(3, .int (nI i)), (2, .ref (adM 0)), (1, .ref (adH 0)), (0, .ref b)] → W p l e room_1 s m #[Value.ref b] below meth c H locs 246 442276 Q (F0 m 422 ls []) := by
      intro M T H locs ls inv hPH hDH hPM hDM bH bM hS hl
      refine lv_iinc (v := nI (i + 6)) (lv' := [(3, .int (nI (i + 6))), (2, .ref (adM 0)), (1, .ref (adH 0)), (0, .ref b)]) hx hb d_law_422 hl (k := 0) rfl (nI_add i 6) (by decide) rfl (fun ls hl => ?_)
      refine lv_goto (tgt := 18) hx hb d_law_425 (by decide) ?_
      exact ih (i + 6) (n + 1) M T H locs ls (by omega) (by omega) (by omega) inv hPH hDH hPM hDM bH bM hS hl
    have hst := stp n M T (by omega) inv
    refine lv_aload_n hx hb d_law_27 rfl (lv_at hl 3 rfl) ?_
    refine lv_iload_n hx hb d_law_28 rfl (lv_at hl 0 rfl) ?_
    refine va_sld hx hb hX hbl hbA hS (vp_in_nI (by omega) (by omega)) d_law_29 ?_
    refine lv_bipush (v := 15) hx hb d_law_30 (by decide) ?_
    refine lv_iand hx hb d_law_32 ?_
    refine lv_topi (fun x2 e2 => ?_)
    by_cases c3 : x2 = 0
    · have h13 : ¬ (x2 : Int32).toInt < 0 := by rw [c3]; decide
      have h23 : ¬ 11 < (x2 : Int32).toInt := by rw [c3]; decide
      refine lv_tableIn (off := 63) (tgt := 96) hx hb d_law_33 h13 h23 (by rw [c3]; decide) (by decide) ?_
      exact law_g0 l hx hb hml hown hT hnw henv hX hbl hbA hL hA hKH hKM apt h6 hPH hDH hPM hDM bH bM hS hl (hst.2.1 _ _ _ _ _) kk
    by_cases c4 : x2 = 1
    · have h14 : ¬ (x2 : Int32).toInt < 0 := by rw [c4]; decide
      have h24 : ¬ 11 < (x2 : Int32).toInt := by rw [c4]; decide
      refine lv_tableIn (off := 126) (tgt := 159) hx hb d_law_33 h14 h24 (by rw [c4]; decide) (by decide) ?_
      exact law_g1 l hx hb hml hown hT hnw henv hX hbl hbA hL hA hKH hKM apt h6 hPH hDH hPM hDM bH bM hS hl (hst.2.2.1 _) kk
    by_cases c5 : x2 = 2
    · have h15 : ¬ (x2 : Int32).toInt < 0 := by rw [c5]; decide
      have h25 : ¬ 11 < (x2 : Int32).toInt := by rw [c5]; decide
      refine lv_tableIn (off := 149) (tgt := 182) hx hb d_law_33 h15 h25 (by rw [c5]; decide) (by decide) ?_
      exact law_g2 l hx hb hml hown hT hnw henv hX hbl hbA hL hA hKH hKM apt h6 hPH hDH hPM hDM bH bM hS hl (hst.2.2.2.1) kk
    by_cases c6 : x2 = 3
    · have h16 : ¬ (x2 : Int32).toInt < 0 := by rw [c6]; decide
      have h26 : ¬ 11 < (x2 : Int32).toInt := by rw [c6]; decide
      refine lv_tableIn (off := 162) (tgt := 195) hx hb d_law_33 h16 h26 (by rw [c6]; decide) (by decide) ?_
      exact law_g3 l hx hb hml hown hT hnw henv hX hbl hbA hL hA hKH hKM apt h6 hPH hDH hPM hDM bH bM hS hl (hst.2.2.2.2.1 _) kk
    by_cases c7 : x2 = 4
    · have h17 : ¬ (x2 : Int32).toInt < 0 := by rw [c7]; decide
      have h27 : ¬ 11 < (x2 : Int32).toInt := by rw [c7]; decide
      refine lv_tableIn (off := 185) (tgt := 218) hx hb d_law_33 h17 h27 (by rw [c7]; decide) (by decide) ?_
      exact law_g4 l hx hb hml hown hT hnw henv hX hbl hbA hL hA hKH hKM apt h6 hPH hDH hPM hDM bH bM hS hl (hst.2.2.2.2.2.1 _) kk
    by_cases c8 : x2 = 5
    · have h18 : ¬ (x2 : Int32).toInt < 0 := by rw [c8]; decide
      have h28 : ¬ 11 < (x2 : Int32).toInt := by rw [c8]; decide
      refine lv_tableIn (off := 208) (tgt := 241) hx hb d_law_33 h18 h28 (by rw [c8]; decide) (by decide) ?_
      exact law_g5 l hx hb hml hown hT hnw henv hX hbl hbA hL hA hKH hKM apt h6 hPH hDH hPM hDM bH bM hS hl (hst.2.2.2.2.2.2.1 _ _) kk
    by_cases c9 : x2 = 6
    · have h19 : ¬ (x2 : Int32).toInt < 0 := by rw [c9]; decide
      have h29 : ¬ 11 < (x2 : Int32).toInt := by rw [c9]; decide
      refine lv_tableIn (off := 241) (tgt := 274) hx hb d_law_33 h19 h29 (by rw [c9]; decide) (by decide) ?_
      exact law_g6 l hx hb hml hown hT hnw henv hX hbl hbA hL hA hKH hKM apt h6 hPH hDH hPM hDM bH bM hS hl (hst.2.2.2.2.2.2.2.1 _) kk
    by_cases c10 : x2 = 7
    · have h110 : ¬ (x2 : Int32).toInt < 0 := by rw [c10]; decide
      have h210 : ¬ 11 < (x2 : Int32).toInt := by rw [c10]; decide
      refine lv_tableIn (off := 264) (tgt := 297) hx hb d_law_33 h110 h210 (by rw [c10]; decide) (by decide) ?_
      exact law_g7 l hx hb hml hown hT hnw henv hX hbl hbA hL hA hKH hKM apt h6 hPH hDH hPM hDM bH bM hS hl (hst.2.2.2.2.2.2.2.2.1 _) kk
    by_cases c11 : x2 = 8
    · have h111 : ¬ (x2 : Int32).toInt < 0 := by rw [c11]; decide
      have h211 : ¬ 11 < (x2 : Int32).toInt := by rw [c11]; decide
      refine lv_tableIn (off := 287) (tgt := 320) hx hb d_law_33 h111 h211 (by rw [c11]; decide) (by decide) ?_
      exact law_g8 l hx hb hml hown hT hnw henv hX hbl hbA hL hA hKH hKM apt h6 hPH hDH hPM hDM bH bM hS hl (hst.2.2.2.2.2.2.2.2.2.1 _) kk
    by_cases c12 : x2 = 9
    · have h112 : ¬ (x2 : Int32).toInt < 0 := by rw [c12]; decide
      have h212 : ¬ 11 < (x2 : Int32).toInt := by rw [c12]; decide
      refine lv_tableIn (off := 310) (tgt := 343) hx hb d_law_33 h112 h212 (by rw [c12]; decide) (by decide) ?_
      exact law_g9 l hx hb hml hown hT hnw henv hX hbl hbA hL hA hKH hKM apt h6 hPH hDH hPM hDM bH bM hS hl (hst.2.2.2.2.2.2.2.2.2.2.1 _) kk
    by_cases c13 : x2 = 10
    · have h113 : ¬ (x2 : Int32).toInt < 0 := by rw [c13]; decide
      have h213 : ¬ 11 < (x2 : Int32).toInt := by rw [c13]; decide
      refine lv_tableIn (off := 333) (tgt := 366) hx hb d_law_33 h113 h213 (by rw [c13]; decide) (by decide) ?_
      exact law_g10 l hx hb hml hown hT hnw henv hX hbl hbA hL hA hKH hKM apt h6 hPH hDH hPM hDM bH bM hS hl (hst.2.2.2.2.2.2.2.2.2.2.2.1 _ _) kk
    by_cases c14 : x2 = 11
    · have h114 : ¬ (x2 : Int32).toInt < 0 := by rw [c14]; decide
      have h214 : ¬ 11 < (x2 : Int32).toInt := by rw [c14]; decide
      refine lv_tableIn (off := 366) (tgt := 399) hx hb d_law_33 h114 h214 (by rw [c14]; decide) (by decide) ?_
      exact law_g11 l hx hb hml hown hT hnw henv hX hbl hbA hL hA hKH hKM apt h6 hPH hDH hPM hDM bH bM hS hl (hst.2.2.2.2.2.2.2.2.2.2.2.2 _) kk
    have h315 : (x2 : Int32).toInt < 0 ∨ 11 < (x2 : Int32).toInt := by
      simp only [i_eq, Int32.reduceToInt] at c3 c4 c5 c6 c7 c8 c9 c10 c11 c12 c13 c14; omega
    refine lv_tableOut (tgt := 422) hx hb d_law_33 h315 (by decide) ?_
    exact kk _ _ _ _ _ hst.1 hPH hDH hPM hDM bH bM hS hl
