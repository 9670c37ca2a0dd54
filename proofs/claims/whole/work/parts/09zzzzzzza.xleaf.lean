/-! leaves and parentheses -/
section CYA
variable {R : RgR} {S S' S1 S2 T T' T1 T2 : gSt} {X : Lx} {nf d i k n m t e w c a b q g f h r s y z lo hi dd mb y1 y2 : Nat} {x v x' pl u1 u2 u3 : Int32} {sl : Int32 → Int32} {ta tb tr : Tr} {j : T5}
theorem XOk.lf (hR : XR R sl X S T) (h51 : T.1 51 0 = nI n) (hn : n < 6032) (hj : ¬ j.1 = 7) (hk : KrO R sl S (emS T n u1 u2 u3) j n) (ht : gdR x y) : XOk R sl X S T (x, 0, [j], S) 1 1 n y (emS T n u1 u2 u3) := by
  have o := kG1 hj
  obtain ⟨a1, a2, a3, a4, a5⟩ := hR.em (S2 := S) (T5 := T) (u1 := u1) (u2 := u2) (u3 := u3) h51 hn (fun _ _ => rfl) rfl rfl (fun _ _ _ => rfl) hR.2.1 hR.2.2.2.2.2.2.2.2.2.2
  refine Or.inl ⟨a1, a2, ⟨0, ht⟩, ?_, ?_, ?_, o.1, by omega⟩
  · dsimp only
    rw [o.2]
    exact em_51
  · dsimp only
    rw [o.2]
    exact ⟨hk, trivial⟩
  · dsimp only
    rw [o.2]
    exact Nat.le_refl 1
/-- checkPrimary, by the kind of its node -/
theorem e_156 (hlo : lo < 4008) (h12 : T.1 12 lo = nI i) : PP nf (d + 1) 156 T [nI lo, nI dd] [] = if T.1 11 lo = 2 then (bi (PP nf d 157 T [nI i] []) fun r5 _ T5 => some (r5, 0, T5)) else if T.1 11 lo = 5 then (bi (PP nf d 27 T [nI i] []) fun r8 l8 T8 => bi (PP nf d 51 T8 [(2 : Int32), (l8 : Int64).toInt32, (0 : Int32)] []) fun r9 _ T9 => some ((1 : Int32), 0, T9)) else if T.1 11 lo = 27 then (bi (PP nf d 51 T [(2 : Int32), (0 : Int32), (0 : Int32)] []) fun r12 _ T12 => some ((2 : Int32), 0, T12)) else if T.1 11 lo = 28 then (bi (PP nf d 163 T [nI lo, nI dd] []) fun r15 _ T15 => some (r15, 0, T15)) else if T.1 11 lo = 29 then (bi (PP nf d 166 T [nI lo, nI dd] []) fun r18 _ T18 => some (r18, 0, T18)) else if T.1 11 lo = 30 then (bi (PP nf d 167 T [nI lo, nI dd] []) fun r21 _ T21 => some (r21, 0, T21)) else if T.1 11 lo = 31 then (bi (PP nf d 170 T [nI lo, nI dd] []) fun r24 _ T24 => some (r24, 0, T24)) else if T.1 11 lo = 32 then (bi (PP nf d 171 T [nI lo, nI dd] []) fun r27 _ T27 => some (r27, 0, T27)) else if T.1 11 lo = 34 then (bi (PP nf d 51 T [(6 : Int32), (0 : Int32), (0 : Int32)] []) fun r30 _ T30 => some ((1 : Int32), 0, T30)) else if T.1 11 lo = 35 then (if T.1 76 0 ≤ 0 then rj_Exprs_checkPrimary_188 (PP nf d) nf T (nI i) (0 : Int32) else rj_Exprs_checkPrimary_188 (PP nf d) nf T (nI i) (1 : Int32)) else if T.1 11 lo = 58 then (bi (PP nf d 169 T [nI lo, nI dd] []) fun r35 _ T35 => some (r35, 0, T35)) else if T.1 11 lo = 63 then (bi (PP nf d 159 T [nI lo, nI dd] []) fun r38 _ T38 => some (r38, 0, T38)) else (bi (PP nf d 139 T [T.1 17 lo, nI (dd + 1)] []) fun r42 _ T42 => some (r42, 0, T42)) := by
  have zz : inb (nI lo) 4008 := nin hlo (by omega)
  rw [e_Exprs_checkPrimary]
  unfold rb_Exprs_checkPrimary
  simp only [gd, if_pos zz, vK, nI_1, nc (show lo < 100000 by omega), h12]
theorem e_leaf (hX : XO X) (hnf : 16385 ≤ nf) : CE0 nf X (tD 1 i e ta tb) := by
  refine e_prim hX hnf rfl (fun T lo hi z h => ?_) ?_
  · rw [RcG_n] at h
    unfold RcN Rc0 at h
    rw [if_neg (by omega), if_neg (by omega), if_pos rfl] at h
    exact h.2.1
  intro T lo hi z a b m dd d hP
  obtain ⟨p1, p2, p3, p4, p5, p6, p7, p8, p9⟩ := hP
  have hxn := hX.1
  rw [RcG_n] at p1
  unfold RcN Rc0 at p1
  rw [if_neg (by omega), if_neg (by omega), if_pos rfl] at p1
  obtain ⟨r1, r2, r3, r4⟩ := p1
  rw [XG_n] at p6
  unfold xgN at p6
  rw [if_neg (by omega), if_pos rfl] at p6
  have p4' := p4
  rw [Wf_n] at p4
  unfold WfN at p4
  rw [if_neg (by decide), if_pos rfl] at p4
  have hi' : i < xn X := by omega
  obtain ⟨d, rfl⟩ : ∃ g, d = g + 2 := ⟨d - 2, by omega⟩
  have w2 := p9.2.1
  have w6 := p9.2.2.2.2.2.1
  rw [e_156 (d := d + 1) (by omega) r4, r3]
  have q : ∀ j, j < 100000 → (nI (xK X i) = nI j) = (xK X i = j) := fun j hj => ci_eq (by have := (hX.2 i).2; omega) hj
  have q2 : (nI (xK X i) = (2 : Int32)) = (xK X i = 2) := q 2 (by omega)
  have q5 : (nI (xK X i) = (5 : Int32)) = (xK X i = 5) := q 5 (by omega)
  have q27 : (nI (xK X i) = (27 : Int32)) = (xK X i = 27) := q 27 (by omega)
  have q28 : (nI (xK X i) = (28 : Int32)) = (xK X i = 28) := q 28 (by omega)
  have q29 : (nI (xK X i) = (29 : Int32)) = (xK X i = 29) := q 29 (by omega)
  have q30 : (nI (xK X i) = (30 : Int32)) = (xK X i = 30) := q 30 (by omega)
  have q31 : (nI (xK X i) = (31 : Int32)) = (xK X i = 31) := q 31 (by omega)
  have q32 : (nI (xK X i) = (32 : Int32)) = (xK X i = 32) := q 32 (by omega)
  have q34 : (nI (xK X i) = (34 : Int32)) = (xK X i = 34) := q 34 (by omega)
  have q35 : (nI (xK X i) = (35 : Int32)) = (xK X i = 35) := q 35 (by omega)
  have ech : ∀ S : gSt, S.1 7 0 = 0 → chk X (tD 1 i e ta tb) 0 0 S = lfC X i S := fun S h0 => by rw [chk_n, if_pos h0]; rfl
  -- a row that is laid at once
  have one : ∀ (u1 u2 u3 : Int32) (y : Nat), y < 3 → (∀ R sl S n, XR R sl X S T → ∃ x j, lfC X i S = (x, 0, [j], S) ∧ gdR x y ∧ ¬ j.1 = 7 ∧ ∀ T', cw3 T' n = (u1, u2, u3) → KrO R sl S T' j n) → wp (bi (PP nf (d + 1) 51 T [u1, u2, u3] []) fun r9 _ T9 => some (nI y, (0 : Int64), T9)) (fun r _ T' => ∃ y, r = nI y ∧ CeQ X T (tD 1 i e ta tb) y T') := by
    intro u1 u2 u3 y hy hs
    obtain ⟨r, T', m1, m2, m3⟩ := a_emit (nf := nf) (d := d + 1) (T := T) (x := u1) (y := u2) (z := u3) w2 w6 (by omega)
    rw [m1, bis]
    refine wp_some ⟨y, rfl, Or.inl hy, m2, fun R sl S n hR hm => ?_⟩
    have kw1 : kwT (tD 1 i e ta tb) = 1 := rfl
    obtain ⟨o1, o2, o3, o4⟩ := hm
    rw [kw1] at o2
    obtain ⟨x, j, s1, s2, s3, s4⟩ := hs R sl S n hR
    unfold XQ
    rw [ech S hR.h0, s1, m3 n o1 (by omega)]
    exact XOk.lf hR o1 (by omega) s3 (s4 _ em_row) s2
  by_cases c2 : xK X i = 2
  · rw [if_pos (q2.mpr c2)]
    refine wp_bi (x_nmC (nf := nf) (d := d + 1) hX hnf p9 hi' (by omega)) ?_
    intro r _ T' ⟨⟨y, y1, y2, y3⟩, y4⟩
    refine wp_some ⟨y, y1, y2, y3, fun R sl S n hR hm => ?_⟩
    obtain ⟨o1, o2, o3, o4⟩ := hm
    have kw1 : kwT (tD 1 i e ta tb) = 1 := rfl
    have lv1 : lvT X (tD 1 i e ta tb) = 1 := rfl
    rw [kw1] at o2
    rw [lv1] at o3
    have ck := ck_of hX p4' p5 hR.2.1 o4
    have en : lfC X i S = nmR X S i := by
      unfold lfC
      rw [if_neg (by omega), if_neg (by omega), if_neg (by omega), if_neg (by omega)]
    unfold XQ
    rw [ech S hR.h0, en] at o4 ck ⊢
    exact y4 R sl S n y y1 y2.lt hR o1 (by omega) (by omega) o4 ck
  rw [if_neg (fun w => c2 (q2.mp w))]
  by_cases c5 : xK X i = 5
  · rw [if_pos (q5.mpr c5), c_name hX p9.1 hi', bis]
    refine one 2 _ 0 1 (by omega) (fun R sl S n hR => ⟨0, j1 1 (xN X i).toInt32 0 0 0, ?_, Or.inl ⟨rfl, rfl⟩, by show ¬ (1 : Int32) = 7; decide, fun T' h => KrO_1 h⟩)
    unfold lfC
    rw [if_pos c5]
  rw [if_neg (fun w => c5 (q5.mp w))]
  by_cases c27 : xK X i = 27
  · rw [if_pos (q27.mpr c27)]
    refine one 2 0 0 2 (by omega) (fun R sl S n hR => ⟨-2, j1 2 0 0 0 0, ?_, Or.inr (Or.inr ⟨rfl, rfl⟩), by show ¬ (2 : Int32) = 7; decide, fun T' h => KrO_2 h⟩)
    unfold lfC
    rw [if_neg c5, if_pos c27]
  rw [if_neg (fun w => c27 (q27.mp w)), if_neg (fun w => by have := q28.mp w; omega), if_neg (fun w => by have := q29.mp w; omega), if_neg (fun w => by have := q30.mp w; omega), if_neg (fun w => by have := q31.mp w; omega), if_neg (fun w => by have := q32.mp w; omega)]
  by_cases c34 : xK X i = 34
  · rw [if_pos (q34.mpr c34)]
    refine one 6 0 0 1 (by omega) (fun R sl S n hR => ⟨0, j1 3 0 0 0 0, ?_, Or.inl ⟨rfl, rfl⟩, by show ¬ (3 : Int32) = 7; decide, fun T' h => KrO_3 h⟩)
    unfold lfC
    rw [if_neg c5, if_neg c27, if_pos c34]
  have c35 : xK X i = 35 := by omega
  rw [if_neg (fun w => c34 (q34.mp w)), if_pos (q35.mpr c35)]
  obtain ⟨cc, k1, k2⟩ := p9.2.2.2.2.2.2.2.1
  have en : ∀ S : gSt, lfC X i S = if S.1 87 0 = 0 then erR (flT S 8 (nI (xP X i))) else (0, 0, [j1 4 (S.1 87 0) 0 0 0], S) := fun S => by
    unfold lfC
    rw [if_neg c5, if_neg c27, if_neg c34, if_pos c35]
  have tail : ∀ y0 : Int32, ∃ T6, rj_Exprs_checkPrimary_188 (PP nf (d + 1)) nf T (nI i) y0 = some (1, 0, T6) ∧ FX (if y0 = 0 then ntS T 8 (nI (xP X i)) else T) T6 ∧ ∀ n, T.1 51 0 = nI n → n < 6032 → ¬ y0 = 0 → T6 = emS T n 3 (60 + T.1 76 0 - 1) 1 := by
    intro y0
    unfold rj_Exprs_checkPrimary_188
    rw [c_start hX p9.1 (by omega), bis, c_dem (by omega), bis]
    generalize hT9 : (if y0 = 0 then ntS T 8 (nI (xP X i)) else T) = T9
    have f9 : FX T T9 := by rw [← hT9]; exact FX.dm w2
    obtain ⟨r, T', m1, m2, m3⟩ := a_emit (nf := nf) (d := d + 1) (T := T9) (x := 3) (y := 60 + T9.1 76 0 - 1) (z := 1) f9.2.2.1 ((p9.fx f9).2.2.2.2.2.1) (by omega)
    rw [m1, bis]
    refine ⟨T', rfl, m2, fun n hn hn2 h0 => ?_⟩
    have eT : T9 = T := by rw [← hT9, if_neg h0]
    rw [eT] at m3
    exact m3 n hn hn2
  by_cases c0 : T.1 76 0 ≤ 0
  · rw [if_pos c0]
    obtain ⟨T6, g1, g2, g3⟩ := tail 0
    rw [g1]
    rw [if_pos rfl] at g2
    refine wp_some ⟨1, rfl, tyY_1, (FX.nt w2).tr g2, fun R sl S n hR hm => ?_⟩
    have e87 : S.1 87 0 = 0 := by
      rw [hR.2.2.2.2.2.2.2.2.2.1]
      rw [k1] at c0 ⊢
      have := (nI_leI (a := cc) (b := 0) (by omega) (by omega)).mp c0
      rw [show cc = 0 by omega]
      rfl
    unfold XQ
    rw [ech S hR.h0, en S, if_pos e87]
    exact Or.inr ((bf_nt (a := 8) hR.h0 hR.h53 (by decide)).fx g2)
  · rw [if_neg c0]
    obtain ⟨T6, g1, g2, g3⟩ := tail 1
    rw [g1]
    rw [if_neg (by decide)] at g2
    refine wp_some ⟨1, rfl, tyY_1, g2, fun R sl S n hR hm => ?_⟩
    have kw1 : kwT (tD 1 i e ta tb) = 1 := rfl
    obtain ⟨o1, o2, o3, o4⟩ := hm
    rw [kw1] at o2
    have e87 : ¬ S.1 87 0 = 0 := fun w => by
      rw [hR.2.2.2.2.2.2.2.2.2.1] at w
      rw [w] at c0
      exact c0 (by decide)
    unfold XQ
    rw [ech S hR.h0, en S, if_neg e87, g3 n o1 (by omega) (by decide)]
    exact XOk.lf hR o1 (by omega) (by show ¬ (4 : Int32) = 7; decide) (KrO_4 (by rw [em_row, hR.2.2.2.2.2.2.2.2.2.1])) (Or.inl ⟨rfl, rfl⟩)
/-- ( ) -/
theorem e_paren (hX : XO X) (hnf : 16385 ≤ nf) (hA : CE1 nf X ta) : CE0 nf X (tD 2 i e ta tb) := by
  refine e_prim hX hnf rfl (fun T lo hi z h => ?_) ?_
  · rw [RcG_n] at h
    unfold RcN Rc0 at h
    rw [if_neg (by omega), if_neg (by omega), if_neg (by omega), if_pos rfl] at h
    exact h.2.1
  intro T lo hi z a b m dd d hP
  obtain ⟨p1, p2, p3, p4, p5, p6, p7, p8, p9⟩ := hP
  have hxn := hX.1
  rw [RcG_n] at p1
  unfold RcN Rc0 at p1
  rw [if_neg (by omega), if_neg (by omega), if_neg (by omega), if_pos rfl] at p1
  obtain ⟨r1, r2, r3, r4, r5, yl, r6, r7⟩ := p1
  rw [XG_n] at p6
  unfold xgN at p6
  rw [if_neg (by omega), if_neg (by omega), if_pos rfl] at p6
  obtain ⟨g1, g2, g3⟩ := p6
  rw [Wf_n] at p4
  unfold WfN at p4
  rw [if_neg (by decide), if_neg (by omega), if_pos rfl] at p4
  obtain ⟨c, f1, f2, f3⟩ := p4
  obtain ⟨d, rfl⟩ : ∃ g, d = g + 2 := ⟨d - 2, by omega⟩
  rw [e_156 (d := d + 1) (by omega) r4, r3, if_neg (by decide), if_neg (by decide), if_neg (by decide), if_neg (by decide), if_neg (by decide), if_neg (by decide), if_neg (by decide), if_neg (by decide), if_neg (by decide), if_neg (by decide), if_neg (by decide), if_neg (by decide), r5]
  refine wp_bi (hA.run (d := d) (m := m - 1) (dd := dd + 1) hnf hX ⟨r6, by omega, p3, f2, by omega, g3, by omega, by omega, p9⟩ (by omega) r7) ?_
  intro r _ T' ⟨y, y1, y2, y3, y4⟩
  refine wp_some ⟨y, y1, y2, y3, fun R sl S n hR hm => ?_⟩
  have ech : chk X (tD 2 i e ta tb) 0 0 S = chk X ta 0 0 S := by rw [chk_n, if_pos hR.h0]; rfl
  unfold XQ
  rw [ech]
  refine y4 R sl S n hR ?_
  unfold Rm at hm ⊢
  rw [ech] at hm
  exact hm
end CYA
