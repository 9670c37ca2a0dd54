/-! STEPS on both sides: an EXPR alone, return -/
section ZS2
variable {S S' T T' T1 T2 T3 : gSt} {X : Lx} {nf d it e v g n dd v' g' k i e' u c m lo hi a b n0 y z : Nat} {ta tb tr : Tr} {pl r x op w : Int32}
theorem sp_o (h1 : k ≠ 81) (h2 : k ≠ 82) (h3 : k ≠ 83) : (spS S).1 k = S.1 k := by
  unfold spS
  rw [sI_ne (by omega), sI_ne (by omega), sI_ne (by omega)]
theorem BfR.sp (h : BfR S T) : BfR (spS S) T := by
  unfold BfR
  rw [sp_o (by omega) (by omega) (by omega), sp_o (by omega) (by omega) (by omega)]
  exact h
/-- a row, and nothing is REACHED behind it -/
theorem z_lv (hw : WZ X T v g dd) (hd : 2 ≤ d) : wp (bi (PP nf d 51 T [op, x, w] []) fun _ _ T14 => bi (PP nf d 118 T14 [] []) fun _ _ T15 => some ((0 : Int32), (0 : Int64), T15)) (fun _ _ T' => FZ T T' ∧ FqZ T T' v ∧ ∀ it e n S m, SrR X it e v g n S T → T.1 51 0 = nI m → m < 6032 → SrR X it e v g n (spS S) T' ∧ TyF S (spS S) T T' ∧ T'.1 51 0 = nI (m + 1) ∧ cw3 T' m = (op, x, w) ∧ AgK S (spS S) T T' 0 m ∧ lvC T' 16384 = lvC T 16384) := by
  obtain ⟨r4, T4, m1, m2, m3⟩ := a_emit (nf := nf) (d := d) (T := T) (x := op) (y := x) (z := w) hw.1.2.1 hw.1.2.2.2.2.2.1 (by omega)
  rw [m1, bis, c_leave (by omega), bis]
  obtain ⟨W4, q4⟩ := hw.fx m2
  obtain ⟨W5, z5, f5⟩ := W4.fl (T' := sJ T4 77 0 (sbW (flw T4) 52 false)) rfl (fun p j hp => by rw [rdJ, if_neg (fun q => hp q.1)])
  refine wp_some ⟨m2.fz.tr z5, q4.tr f5, fun it e n S m hR h51 hm => ?_⟩
  have eT := m3 m h51 hm
  obtain ⟨b1, b2, b3⟩ := hR.em (a := op) (b := x) (z := w) h51 hm
  rw [← eT] at b1 b2 b3
  obtain ⟨c1, c2⟩ := b1.sp
  have A4 : AgK S S T T4 0 m := AgK.fx b2 rfl m2 h51 (by omega) (Nat.le_refl _)
  refine ⟨c1, b2.tr c2, ?_, ?_, A4.tr ⟨c2, sp_o (by omega) (by omega) (by omega), fun _ _ _ => rfl, fun _ _ _ _ _ _ => rfl⟩, ?_⟩
  · show T4.1 51 0 = _
    rw [eT]; exact em_51
  · show cw3 T4 m = _
    rw [eT]; exact em_row
  · rw [lvC_62 (T := T4) (T' := sJ T4 77 0 (sbW (flw T4) 52 false)) rfl rfl 16384]
    exact b3
theorem z_30 (hX : XO X) (hnf : 16385 ≤ nf) (hC : CE1 nf X ta) : Zs0 nf X it (tD 30 i e' ta tb) := by
  intro T lo hi dd d a b v g v' g' ⟨p1, p2, p3, p4, p5, p6, p7, p8, p9, p10, p11⟩
  have hxn := hX.1
  rw [RcS_n] at p1
  unfold RsC at p1
  rw [if_neg (by omega), if_neg (by omega), if_neg (by omega)] at p1
  obtain ⟨q1, q2, q3⟩ := p1
  rw [if_neg (by omega), if_neg (by omega), if_neg (by omega), if_neg (by omega), if_neg (by omega), if_neg (by omega), if_neg (by omega), if_neg (by omega), if_neg (by omega), if_pos rfl] at q3
  obtain ⟨r1, r2, r3⟩ := q3
  rw [SG_n] at p4
  unfold sgN at p4
  rw [if_neg (by omega), if_neg (by omega), if_neg (by omega), if_neg (by omega), if_neg (by omega), if_neg (by omega), if_neg (by omega), if_pos (by omega)] at p4
  rw [Ws_n] at p5
  unfold WsN at p5
  rw [if_neg (by omega), if_neg (by omega), if_neg (by omega), if_neg (by omega), if_neg (by omega), if_neg (by omega), if_neg (by omega), if_neg (by omega), if_pos rfl] at p5
  obtain ⟨w1, ev, eg, c, w2, w3⟩ := p5
  have ev := ev.symm
  have eg := eg.symm
  subst ev eg
  obtain ⟨d, rfl⟩ : ∃ g, d = g + 2 := ⟨d - 2, by omega⟩
  have zl : inb (nI lo) 4008 := nin (by omega) (by omega)
  obtain ⟨z, hP, h13⟩ := ZsP.ce (d := d) p7 r3 (by omega) p3 p4 w2.1 (by omega) (by omega)
  rw [e_Steps_checkStep _ (d + 1)]
  unfold rb_Steps_checkStep
  rw [gd, if_pos zl, nc (by omega), r1]
  repeat rw [if_neg (by decide)]
  unfold rj_Steps_checkStep_382
  rw [gd, if_pos zl, nc (by omega), r2, nI_1]
  refine wp_bi (hC.run hnf hX hP (by omega) h13) ?_
  intro r _ T1 ⟨y, y1, hq⟩
  have yl := hq.1.lt
  have fx1 := hq.2.1
  rw [y1, c_wordsOf (by omega) (by omega), bis]
  obtain ⟨r4, T4, m1, m2, m3⟩ := a_emit (nf := nf) (d := d + 1) (T := T1) (x := 5) (y := nI (wdC T1 y)) (z := 0) fx1.2.2.1 (p7.1.fx fx1).2.2.2.2.2.1 (by omega)
  rw [m1, bis]
  refine wp_some ⟨(fx1.tr m2).fz, (p7.fx (fx1.tr m2)).2, fun e n S n0 hR hbd h51 hrow hn hl hc => ?_⟩
  have ekw : kwS2 (tD 30 i e' ta tb) = kwT ta + 2 := rfl
  have elv : lvS2 X (tD 30 i e' ta tb) = lvT X ta := rfl
  have esp : stS X it (tD 30 i e' ta tb) 0 0 0 S = (chk X ta 0 0 S).2.2.2 := rfl
  unfold ZOk
  rw [ekw] at hn ⊢
  rw [elv] at hl ⊢
  rw [esp] at hc ⊢
  rcases hR.xq fx1 (hq.2.2 _ _ S (n0 + 1) hR.xr ⟨h51, by omega, by omega, hc⟩) with bf | ⟨a1, a2, ⟨h, a3⟩, ⟨m', a4, a5, a6⟩, a7⟩
  · exact Or.inl (bf.fx m2)
  · have eT := m3 m' a4 (by omega)
    obtain ⟨b1, b2, b3⟩ := a1.em (a := 5) (b := nI (wdC T1 y)) (z := 0) a4 (by omega)
    rw [← eT] at b1 b2 b3
    refine Or.inr ⟨b1, a2.tr b2, ⟨m' + 1, by rw [eT]; exact em_51, by omega, ?_⟩, by omega⟩
    rw [KdS_n]
    unfold KsN
    have := a6.1
    rw [if_neg (by omega), if_neg (by omega), if_neg (by omega)]
    refine ⟨by omega, ?_, ?_⟩
    · rw [(fx1.tr m2).rows h51 (by omega) (by omega)]
      exact hrow
    rw [if_neg (by omega), if_neg (by omega), if_neg (by omega), if_neg (by omega), if_neg (by omega), if_pos rfl]
    refine ⟨m', a6.mo (AgK.fx (a := n0 + 1) b2 rfl m2 a4 (by omega) (Nat.le_refl _)) (Nat.le_refl _) (Nat.le_refl _), ⟨nI (wdC T1 y), ⟨h, y, TyR.mo b2 (fun _ _ z => z) _ _ _ a3, by rw [a3.wd b2]⟩, ?_⟩, rfl⟩
    rw [eT]; exact em_row
theorem z_23 (hX : XO X) (hnf : 16385 ≤ nf) (hC : CE1 nf X ta) : Zs0 nf X it (tD 23 i e' ta tb) := by
  intro T lo hi dd d a b v g v' g' ⟨p1, p2, p3, p4, p5, p6, p7, p8, p9, p10, p11⟩
  have hxn := hX.1
  rw [RcS_n] at p1
  unfold RsC at p1
  rw [if_neg (by omega), if_neg (by omega), if_neg (by omega)] at p1
  obtain ⟨q1, q2, q3⟩ := p1
  rw [if_neg (by omega), if_neg (by omega), if_neg (by omega), if_pos rfl] at q3
  obtain ⟨r1, r2⟩ := q3
  rw [SG_n] at p4
  unfold sgN at p4
  rw [if_neg (by omega), if_neg (by omega), if_neg (by omega), if_neg (by omega), if_neg (by omega), if_neg (by omega), if_pos rfl] at p4
  rw [Ws_n] at p5
  unfold WsN at p5
  rw [if_neg (by omega), if_neg (by omega), if_neg (by omega), if_neg (by omega), if_neg (by omega), if_neg (by omega), if_pos rfl] at p5
  obtain ⟨w1, ev, eg, w2⟩ := p5
  have ev := ev.symm
  have eg := eg.symm
  subst ev eg
  obtain ⟨d, rfl⟩ : ∃ g, d = g + 4 := ⟨d - 4, by omega⟩
  have zl : inb (nI lo) 4008 := nin (by omega) (by omega)
  have il : i < xn X := by
    by_cases z : isZ ta = true
    · rw [if_pos z] at w2; omega
    · rw [if_neg z] at w2
      obtain ⟨c, f, _⟩ := w2
      have := (Wf_le _ false _ _ f.1).1 rfl
      omega
  obtain ⟨ti, t1, t2⟩ := p7.2.2.2.2.2.2
  have ti24 : ti < 24 := by
    obtain ⟨t', k1, k2, _⟩ := p7.1.2.2.2.2.2.2.1
    have : ti = t' := nI_inj (by
      obtain ⟨n, n1, n2⟩ := p7.1.2.2.1
      unfold itN at t2
      rw [n1, nc (by omega)] at t2
      omega) (by omega) (by rw [← t1, ← k1])
    omega
  obtain ⟨_, _, _, ⟨yw, j1, j2⟩, _⟩ := p7.1.2.2.2.2.2.2.2.2 ti t2
  have ywl := j2.lt
  have zt : inb (nI ti) 24 := nin ti24 (by omega)
  rw [e_Steps_checkStep _ (d + 3)]
  unfold rb_Steps_checkStep
  rw [gd, if_pos zl, nc (by omega), r1, if_neg (by decide), if_neg (by decide), if_neg (by decide), if_neg (by decide), if_pos rfl, e_Steps_checkReturn _ (d + 2)]
  unfold rb_Steps_checkReturn
  rw [gd, if_pos zl, nc (by omega), vK, t1, gd, if_pos zt, nc (by omega), j1, vK]
  -- whether a value is asked for
  have q0 : (nI yw = (0 : Int32)) = (yw = 0) := ci_eq (j := 0) (by omega) (by omega)
  have wan : ∀ (e n : Nat) (S : gSt), SrR X it e v g n S T → ti = it ∧ (0 ≤ S.1 25 it ↔ ¬ yw = 0) ∧ TyR (RgE e S) S T 5 (S.1 26 it) yw ∧ it < inn S ∧ (¬ yw = 0 → ¬ S.1 26 it = -1) ∧ ¬ S.1 26 it = -2 := fun e n S hR => by
    have e67 := hR.1.2.2.2.2.2.2.2.2.2.2.2.2.1
    have it24 := hR.1.2.2.2.2.2.2.2.2.2.2.2.2.2.1
    have et : ti = it := nI_inj (by omega) (by omega) (by rw [← t1, ← e67])
    subst et
    have itn : ti < inn S := by
      obtain ⟨n', n1, n2, n3, n4⟩ := hR.1.2.1
      unfold itN at t2
      rw [n2, nc (by omega)] at t2
      omega
    have ai := hR.1.2.2.2.2.2.2.2.2.2.1 ti itn
    obtain ⟨w', y', k1, k2, k3, k4, k5, k6, k7, k8, k9⟩ := ai.fn hR.1.2.2.2.2.2.2.2.2.2.2.2.2.2.2
    have ey : y' = yw := nI_inj (by omega) (by omega) (by rw [← k6, ← j1])
    subst ey
    have itk := hR.1.2.2.1.1.2.2.2.2.1.2.2 ti itn
    obtain ⟨cc, mm, rr, ww, i1', i2', i3', i4', i5', i6', i7', i8', i9', i10', i11'⟩ := itk
    have t8 : TyR (RgE e S) S T 5 (S.1 26 ti) y' := TyR.mo TyF.rf (fun c m h => Or.inl h) _ _ _ k8
    refine ⟨rfl, ⟨fun h => fun w => ?_, fun h => ?_⟩, t8, itn, fun w q => w (k8.y0.mp q), fun q => ?_⟩
    · have := (i10' h).1
      have x1 := k8.y0.mpr w
      rw [x1] at this
      rcases this with u | ⟨p, u, u1, u2⟩
      · exact absurd u (by decide)
      · have := nIpos u1 (show p < 100000 by have := hR.1.2.2.1.1.1.2.2; omega)
        rw [← u] at this
        exact absurd this (by decide)
    · refine Decidable.byContradiction fun q => h (k8.y0.mp (k9 ?_))
      rw [Int32.lt_iff_toInt_lt]
      rw [Int32.le_iff_toInt_le] at q
      have e0 : (0 : Int32).toInt = 0 := by decide
      omega
    · by_cases h0 : 0 ≤ S.1 25 ti
      · have := (i10' h0).1
        rw [q] at this
        rcases this with u | ⟨p, u, u1, u2⟩
        · exact absurd u (by decide)
        · have := nIpos u1 (show p < 100000 by have := hR.1.2.2.1.1.1.2.2; omega)
          rw [← u] at this
          exact absurd this (by decide)
      · have : S.1 26 ti = -1 := k9 (by
          rw [Int32.lt_iff_toInt_lt]
          rw [Int32.le_iff_toInt_le] at h0
          have e0 : (0 : Int32).toInt = 0 := by decide
          omega)
        rw [q] at this
        exact absurd this (by decide)
  -- the row and the end
  have tail : ∀ T3, FX T T3 → wp (bi (PP nf (d + 2) 97 T3 [nI yw] []) fun r13 _ T13 => bi (PP nf (d + 2) 51 T13 [(58 : Int32), r13, (0 : Int32)] []) fun _ _ T14 => bi (PP nf (d + 2) 118 T14 [] []) fun _ _ T15 => some ((0 : Int32), (0 : Int64), T15)) (fun _ _ T' => FZ T T' ∧ FqZ T T' v ∧ FZ T3 T' ∧ ∀ it e n S m, SrR X it e v g n S T3 → T3.1 51 0 = nI m → m < 6032 → SrR X it e v g n (spS S) T' ∧ TyF S (spS S) T3 T' ∧ T'.1 51 0 = nI (m + 1) ∧ cw3 T' m = (58, nI (wdC T3 yw), 0) ∧ AgK S (spS S) T3 T' 0 m ∧ lvC T' 16384 = lvC T3 16384) := by
    intro T3 f3
    obtain ⟨W3, q3⟩ := p7.fx f3
    rw [c_wordsOf (by omega) (by omega), bis]
    refine wp_mono (z_lv (nf := nf) (d := d + 2) (op := 58) (x := nI (wdC T3 yw)) (w := 0) W3 (by omega)) ?_
    intro _ _ T' ⟨z1, z2, z3⟩
    exact ⟨f3.fz.tr z1, q3.tr z2, z1, z3⟩
  have ekw : kwS2 (tD 23 i e' ta tb) = kwT ta + 2 := rfl
  have elv : lvS2 X (tD 23 i e' ta tb) = lvT X ta := rfl
  have est : ∀ S, stS X it (tD 23 i e' ta tb) 0 0 0 S = (rtC X ta i it S).2 := fun S => rfl
  have row1 : ∀ (e n1 n0 : Nat) (Sf T' S : gSt), isZ ta = true → cw3 T' n0 = (1, nI (xP X i), 0) → cw3 T' (n0 + 1) = (58, 0, 0) → KdS X it e Sf T' (tD 23 i e' ta tb) 0 0 S n0 (n0 + 2) := fun e n1 n0 Sf T' S z h1 h2 => by
    rw [KdS_n]
    unfold KsN
    rw [if_neg (by omega), if_neg (by omega), if_neg (by omega)]
    refine ⟨by omega, h1, ?_⟩
    rw [if_neg (by omega), if_neg (by omega), if_neg (by omega), if_pos rfl, if_pos z]
    exact ⟨h2, rfl⟩
  -- both kinds of a return
  have go : ∀ y0 : Int32, (y0 = 0 ↔ ¬ (isZ ta = true ↔ yw = 0)) → wp (rj_Steps_checkReturn_58 (PP nf (d + 2)) nf T (nI lo) (nI dd) (T.1 17 lo) (nI yw) y0) (fun _ _ T' => FZ T T' ∧ FqZ T T' v ∧ ZsB X it T (tD 23 i e' ta tb) v g v g T') := by
    intro y0 hy0
    unfold rj_Steps_checkReturn_58
    rw [gd, if_pos zl, nc (by omega), q2, c_start hX p7.1.1 (by omega), bis, c_dem (by omega), bis]
    generalize hT2 : (if y0 = 0 then ntS T 8 (nI (xP X i)) else T) = T2
    have f2 : FX T T2 := by rw [← hT2]; exact FX.dm p7.1.2.1
    -- what the spec says there
    have bad : ∀ (e n : Nat) (S : gSt), SrR X it e v g n S T → y0 = 0 → BfR (rtC X ta i it S).2 T2 := fun e n S hR h0 => by
      obtain ⟨_, k1, _⟩ := wan e n S hR
      have nn : ¬ ((0 ≤ S.1 25 it) ↔ isZ ta = false) := fun q => hy0.mp h0 (by
        cases hz : isZ ta with
        | true =>
          rw [hz] at q
          refine ⟨fun _ => Decidable.byContradiction fun w => absurd (q.mp (k1.mpr w)) (by decide), fun _ => rfl⟩
        | false =>
          rw [hz] at q
          exact ⟨fun w => (by cases w), fun w => absurd w (k1.mp (q.mpr rfl))⟩)
      have bf := bf_nt (S := S) (T := T) (p := nI (xP X i)) (a := 8) hR.1.2.2.2.1 hR.1.2.2.2.2.1 (by decide)
      unfold rtC rtO
      rw [if_neg nn, if_neg bf.1, ← hT2, if_pos h0]
      exact bf
    have good : ∀ (e n : Nat) (S : gSt), SrR X it e v g n S T → ¬ y0 = 0 → T2 = T ∧ (rtC X ta i it S).2 = if isZ ta = true then spS S else spS (ftS (chk X ta 0 0 S).2.2.2 (chk X ta 0 0 S).1 ((chk X ta 0 0 S).2.2.2.1 26 it) (plT X ta)) := fun e n S hR h0 => by
      obtain ⟨_, k1, _⟩ := wan e n S hR
      have hh : (isZ ta = true ↔ yw = 0) := Decidable.byContradiction fun w => h0 (hy0.mpr w)
      have nn : ((0 ≤ S.1 25 it) ↔ isZ ta = false) := by
        rw [k1]
        cases hz : isZ ta with
        | true => rw [hz] at hh; exact ⟨fun w => absurd (hh.mp rfl) w, fun w => by cases w⟩
        | false => rw [hz] at hh; exact ⟨fun _ => rfl, fun _ w => absurd (hh.mpr w) (by decide)⟩
      refine ⟨by rw [← hT2, if_neg h0], ?_⟩
      unfold rtC rtO
      rw [if_pos nn, if_pos hR.1.2.2.2.1]
      split <;> rfl
    by_cases z : isZ ta = true
    · rw [if_pos z] at r2 w2
      rw [r2.2, if_pos rfl]
      refine wp_mono (tail T2 f2) ?_
      intro _ _ T' ⟨z1, z2, z3, z4⟩
      refine ⟨z1, z2, fun e n S n0 hR hbd h51 hrow hn hl hc => ?_⟩
      unfold ZOk
      rw [ekw] at hn ⊢
      rw [elv] at hl ⊢
      rw [est S] at hc ⊢
      by_cases h0 : y0 = 0
      · exact Or.inl ((bad e n S hR h0).fz z3)
      · obtain ⟨e2, es⟩ := good e n S hR h0
        subst e2
        have hh : yw = 0 := (Decidable.byContradiction fun w => h0 (hy0.mpr w) : (isZ ta = true ↔ yw = 0)).mp z
        rw [es, if_pos z] at hc ⊢
        obtain ⟨c1, c2, c3, c4, c5, c6⟩ := z4 it e n S (n0 + 1) hR h51 (by omega)
        refine Or.inr ⟨c1, c2, ⟨n0 + 2, c3, by omega, row1 e 0 n0 _ _ _ z ?_ ?_⟩, by omega⟩
        · rw [c5.rw (by omega) (by omega)]; exact hrow
        · rw [c4, hh]; rfl
    · rw [if_neg z] at r2 w2
      obtain ⟨c, w3, w4⟩ := w2
      have p4' := p4.resolve_left z
      have n0' : ¬ nI (lo + 1) = (0 : Int32) := fun w => by
        have := nI_inj (b := 0) (by omega) (by omega) w
        omega
      rw [r2.1, if_neg n0', nI_1]
      obtain ⟨W2, Q2⟩ := p7.fx f2
      obtain ⟨zz, hP, h13⟩ := ZsP.ce (d := d) W2 (r2.2.fz f2.fz) (by omega) p3 p4' w3.1 (by omega) (by omega)
      refine wp_bi (y_fits (nf := nf) (d := d) (zw := yw) hX hnf hC hP (by omega) h13 (f2.2.2.2.1 _ j2)) ?_
      intro _ _ T4 ⟨y, T3, o, hq, ho, e4⟩
      have fx3 := hq.2.1
      have fx4 : FX T3 T4 := by rw [e4]; exact FX.fi fx3.2.2.1
      refine wp_mono (tail T4 ((f2.tr fx3).tr fx4)) ?_
      intro _ _ T' ⟨z1, z2, z3, z4⟩
      refine ⟨z1, z2, fun e n S n0 hR hbd h51 hrow hn hl hc => ?_⟩
      unfold ZOk
      rw [ekw] at hn ⊢
      rw [elv] at hl ⊢
      rw [est S] at hc ⊢
      by_cases h0 : y0 = 0
      · exact Or.inl ((bad e n S hR h0).fz ((fx3.tr fx4).fz.tr z3))
      · obtain ⟨e2, es⟩ := good e n S hR h0
        subst e2
        obtain ⟨ei, k1, k2, k3, k4, k5⟩ := wan e n S hR
        have hh : ¬ yw = 0 := fun w => z ((Decidable.byContradiction fun w => h0 (hy0.mpr w) : (isZ ta = true ↔ yw = 0)).mpr w)
        rw [es, if_neg z] at hc ⊢
        rw [cn_sp] at hc
        have fA := chk_fe (X := X) ta 0 0 S
        have cA : cn (chk X ta 0 0 S).2.2.2 < 6000 := (FE.ft : FE (chk X ta 0 0 S).2.2.2 _).lt (fA.tg hR.1.2.2.1.1.1) hc
        rcases hR.xq fx3 (hq.2.2 _ _ S (n0 + 1) hR.xr ⟨h51, by omega, by omega, cA⟩) with bf | ⟨a1, a2, ⟨h, a3⟩, ⟨m', a4, a5, a6⟩, a7⟩
        · left
          have : ftS (chk X ta 0 0 S).2.2.2 (chk X ta 0 0 S).1 ((chk X ta 0 0 S).2.2.2.1 26 it) (plT X ta) = (chk X ta 0 0 S).2.2.2 := by
            unfold ftS
            rw [if_neg (fun q => bf.1 q.1)]
          rw [this]
          exact (bf.fx fx4).sp.fz z3
        · have Rq := (RgE_eq (e := e) (S := S) (S' := (chk X ta 0 0 S).2.2.2) (by rw [fA.1 71 (by omega)]) (fA.1 73 (by omega)))
          rw [fA.1 26 (by omega)] at hc ⊢
          rcases fits_b (pl := plT X ta) a1.xr (by rw [Rq]; exact a3) (by rw [Rq]; exact TyR.mo a2 (fun _ _ z => z) _ _ _ k2) (k4 hh) k5 ho with ⟨s1, s2⟩ | bf
          · rw [← e4] at s1
            subst s1
            rw [s2] at hc ⊢
            obtain ⟨c1, c2, c3, c4, c5, c6⟩ := z4 it e n _ m' a1 a4 (by omega)
            refine Or.inr ⟨c1, a2.tr c2, ⟨m' + 1, c3, by omega, ?_⟩, by omega⟩
            rw [KdS_n]
            unfold KsN
            have := a6.1
            rw [if_neg (by omega), if_neg (by omega), if_neg (by omega)]
            refine ⟨by omega, ?_, ?_⟩
            · rw [c5.rw (by omega) (by omega), fx3.rows h51 (by omega) (by omega)]; exact hrow
            rw [if_neg (by omega), if_neg (by omega), if_neg (by omega), if_pos rfl, if_neg z]
            refine ⟨m', a6.mo c5 (by omega) (Nat.le_refl _), ⟨nI (wdC T4 yw), ⟨5, yw, TyR.mo (a2.tr c2) (fun _ _ z => z) _ _ _ k2, by rw [k2.wd (a2.tr c2), k2.wd a2]⟩, c4⟩, rfl⟩
          · left
            rw [← e4] at bf
            exact bf.sp.fz z3
  -- which of them
  have m17 : (T.1 17 lo = 0) ↔ isZ ta = true := by
    by_cases z : isZ ta = true
    · rw [if_pos z] at r2
      exact ⟨fun _ => z, fun _ => r2.2⟩
    · rw [if_neg z] at r2
      refine ⟨fun w => ?_, fun w => absurd w z⟩
      rw [r2.1] at w
      have := nI_inj (b := 0) (by omega) (by omega) w
      omega
  refine wp_bi (R := fun _ _ T' => FZ T T' ∧ FqZ T T' v ∧ ZsB X it T (tD 23 i e' ta tb) v g v g T') ?_ (fun r _ T' h => wp_some h)
  unfold rj_Steps_checkReturn_40
  simp only [q0]
  by_cases z : isZ ta = true
  · rw [if_pos (m17.mpr z)]
    by_cases y0 : yw = 0
    · rw [if_pos y0, if_pos trivial]
      exact go 1 ⟨fun w => absurd w (by decide), fun w => absurd ⟨fun _ => y0, fun _ => z⟩ w⟩
    · rw [if_neg y0, if_neg (by decide)]
      exact go 0 ⟨fun _ w => y0 (w.mp z), fun _ => rfl⟩
  · rw [if_neg (fun w => z (m17.mp w))]
    by_cases y0 : yw = 0
    · rw [if_pos y0, if_neg (by decide)]
      exact go 0 ⟨fun _ w => z (w.mpr y0), fun _ => rfl⟩
    · rw [if_neg y0, if_pos trivial]
      exact go 1 ⟨fun w => absurd w (by decide), fun w => absurd ⟨fun q => absurd q z, fun q => absurd q y0⟩ w⟩
end ZS2
