/-! EXPRS: a TERM, or a left part, an operator and a TERM -/
section CYM
variable {R : RgR} {S S' S0 S1 S2 T T' T1 T2 : gSt} {X : Lx} {nf d i k n m t e w c a b q g f h r s y z lo hi dd mb y1 y2 kd kw kw1 lv lv1 st u h1 h2 : Nat} {x v x' pl pr u1 u2 u3 op x1 x2 : Int32} {sl : Int32 → Int32} {ta tb tr : Tr}
theorem XG.t0 (h : XG X (tD k i e ta tb) m 1) (h5 : ¬ k = 5) : XG X (tD k i e ta tb) m 0 := by
  rw [XG_n] at h ⊢
  unfold xgN at h ⊢
  rw [if_neg (by omega)] at h ⊢
  simp only [h5, if_false] at h ⊢
  exact h
theorem e_x1 (hX : XO X) (hnf : 16385 ≤ nf) (h5 : ¬ k = 5) (hC : CE0 nf X (tD k i e ta tb)) : CE1 nf X (tD k i e ta tb) := by
  intro T lo hi z a b m dd d Q hP hd hQ
  obtain ⟨p1, p2, p3, p4, p5, p6, p7, p8, p9⟩ := hP
  rw [RcG_n] at p1
  unfold RcN at p1
  rw [if_neg (by omega), if_pos rfl, if_neg h5] at p1
  obtain ⟨e1, z0, r1, r2⟩ := p1
  have rg : RcG X T (tD k i e ta tb) 0 lo hi z0 := by
    rw [RcG_n]
    unfold RcN
    rw [if_neg (by omega), if_neg (by omega)]
    exact r1
  have le := (Rc_le _ 0 _ _ _ (by omega) rg).1 rfl
  have lk : (if z0 = 0 then T.1 18 lo else T.1 13 z0) = nI 0 := by
    unfold fnT at r2
    split
    · rename_i c0
      rw [if_pos c0] at r2
      exact r2
    · rename_i c0
      rw [if_neg c0] at r2
      exact r2
  obtain ⟨d1, rfl⟩ : ∃ g, d = g + 1 := ⟨d - 1, by omega⟩
  refine wp_bi (hC.stop (d := d1) (st := 0) hX hnf ⟨rg, p2, p3, p4, p5, p6.t0 h5, p7, by omega, p9⟩ (Or.inl rfl) (by omega) lk) ?_
  intro r _ T1 ⟨y, e2, hq⟩
  rw [e2, gd, if_pos (nin (by omega) (by omega)), nc (by omega), vK, hq.2.1.o (k := 13) (by omega)]
  have := hQ y T1 hq
  rw [opN_n, if_neg h5, e1] at this
  exact this
theorem e_x5 (hX : XO X) (hnf : 16385 ≤ nf) (hA : CE1 nf X ta) (hB : CE0 nf X tb) : CE1 nf X (tD 5 i e ta tb) := by
  intro T lo hi z a b m dd d Q hP hd hQ
  obtain ⟨p1, p2, p3, p4, p5, p6, p7, p8, p9⟩ := hP
  have hxn := hX.1
  rw [RcG_n] at p1
  unfold RcN at p1
  rw [if_neg (by omega), if_pos rfl, if_pos rfl] at p1
  obtain ⟨r1, r2, ⟨y', r3, r4⟩, r5, zb, r6, r7⟩ := p1
  rw [XG_n] at p6
  unfold xgN at p6
  rw [if_neg (by omega), if_neg (by omega), if_neg (by omega), if_neg (by omega), if_neg (by omega), if_pos rfl] at p6
  obtain ⟨_, g1, g2, g3⟩ := p6
  have p4' := p4
  rw [Wf_n] at p4
  unfold WfN at p4
  rw [if_neg (by decide), if_neg (by omega), if_neg (by omega), if_neg (by omega), if_neg (by omega), if_pos rfl] at p4
  obtain ⟨f1, f2⟩ := p4
  have opl := tl_le ta a i f1
  have le2 := (Wf_le _ false _ _ f2).1 rfl
  refine hA T lo z y' a i m dd d Q ⟨r3, p2, by omega, f1, by omega, g1, p7, by omega, p9⟩ hd ?_
  intro y1 T1 hq
  have fx1 := hq.2.1
  have x1 := p9.fx fx1
  have eop : opN (tD 5 i e ta tb) = opN ta + 1 := rfl
  obtain ⟨fl, hfl⟩ : ∃ g, nf - opN ta = g + 1 := ⟨nf - opN ta - 1, by omega⟩
  have efl : fl = nf - opN (tD 5 i e ta tb) := by rw [eop]; omega
  rw [hfl, r4, rl_Exprs_check_22, if_neg (fun w => by have := nI_inj (a := z) (b := 0) (by omega) (by omega) w; omega), if_neg (fun w => by have := (nI_leI (a := 4000) (b := opN ta) (by omega) (by omega)).mp w; omega)]
  have lk : (if zb = 0 then T1.1 18 z else T1.1 13 zb) = nI 0 := by
    unfold fnT at r7
    rw [fx1.o (k := 18) (by omega), fx1.o (k := 13) (by omega)]
    split
    · rename_i c0
      rw [if_pos c0] at r7
      exact r7
    · rename_i c0
      rw [if_neg c0] at r7
      exact r7
  obtain ⟨d1, rfl⟩ : ∃ g, d = g + 1 := ⟨d - 1, by omega⟩
  refine wp_bi (hB.stop (d := d1) (st := 0) hX hnf ⟨r6.fx fx1, by omega, p3, f2, by omega, g2, p7, by omega, x1⟩ (Or.inl rfl) (by omega) lk) ?_
  intro r _ T2 ⟨y2, e2, hq2⟩
  rw [e2]
  have fx2 := hq2.2.1
  have fx12 := fx1.tr fx2
  have x2 := x1.fx fx2
  have fsB := XG.fs tb m 0 (by omega) g2
  have bL := x_begin (nf := nf) (d := d1) hX hnf (p9.1.fx fx12) (r3.fx fx12) (by omega) g1 (by omega) f1 (by omega) (by omega)
  have bR := c_begin (nf := nf) (d := d1) (mo := 0) hX (by omega) (p9.1.fx fx12) (by omega) (r6.fx fx12) p3 (by omega) fsB.2 f2 p5 (by omega)
  refine wp_bi (y_op (nf := nf) (d := d1) (X := X) hnf x2 (fx2.2.2.2.1 _ hq.1) hq2.1 (by omega) (by rw [fx12.o (by omega)]; exact r5) g3 bL bR (by omega)) ?_
  intro r' _ T3 ⟨y3, e3, t3, fx3, hO⟩
  rw [e3, gd, if_pos (nin (by omega) (by omega)), nc (by omega), vK, vK, nI_1, fx3.o (k := 13) (by omega), fx12.o (k := 13) (by omega)]
  have hq3 : CeQ X T (tD 5 i e ta tb) y3 T3 := by
    refine ⟨t3, fx12.tr fx3, fun R sl S n hR hm => ?_⟩
    obtain ⟨m1, m2, m3, m4⟩ := hm
    have ekw : kwT (tD 5 i e ta tb) = kwT ta + kwT tb + 1 := rfl
    have elv : lvT X (tD 5 i e ta tb) = lvT X ta + lvT X tb := rfl
    have ech : chk X (tD 5 i e ta tb) 0 0 S = bnC X (chk X ta) (chk X tb) ta tb (chK e) S := by rw [chk_n, if_pos hR.h0]; rfl
    unfold XQ
    rw [ekw] at m2 ⊢
    rw [elv] at m3 ⊢
    rw [ech] at m4 ⊢
    unfold bnC at m4 ⊢
    have fe1 : FE S (chk X ta 0 0 S).2.2.2 := chk_fe ta 0 0 S
    have fe2 : FE (chk X ta 0 0 S).2.2.2 (chk X tb 0 0 (chk X ta 0 0 S).2.2.2).2.2.2 := chk_fe tb 0 0 _
    have tg1 := fe1.tg hR.2.1.1
    have cB : (chk X ta 0 0 S).2.2.2.1 7 0 = 0 → cn (chk X tb 0 0 (chk X ta 0 0 S).2.2.2).2.2.2 < 6000 := fun h0 => by
      dsimp only at m4
      rw [if_pos h0] at m4
      split at m4
      · exact FE.op.lt (fe2.tg tg1) m4
      · exact m4
    have cA : cn (chk X ta 0 0 S).2.2.2 < 6000 := by
      by_cases h0 : (chk X ta 0 0 S).2.2.2.1 7 0 = 0
      · exact fe2.lt tg1 (cB h0)
      · dsimp only at m4
        rw [if_neg h0] at m4
        exact m4
    have qA := hq.2.2 R sl S n hR ⟨m1, by omega, by omega, cA⟩
    unfold XQ XOk at qA
    rcases qA with ⟨a1, a2, ⟨h1, a3⟩, a4, a5, a6, a7, a8⟩ | hBf
    · dsimp only at m4 ⊢
      rw [if_pos a1.h0] at m4 ⊢
      have qB := hq2.2.2 R sl (chk X ta 0 0 S).2.2.2 (n + (ksE (chk X ta 0 0 S).2.2.1).length) a1 ⟨a4, by omega, by omega, cB a1.h0⟩
      unfold XQ XOk at qB
      rcases qB with ⟨b1, b2, ⟨h2, b3⟩, b4, b5, b6, b7, b8⟩ | hBf
      · rw [if_pos b1.h0] at m4 ⊢
        have eap := ksE_ap (js := (chk X ta 0 0 S).2.2.1) b7
        have l2 : (ksE ((chk X ta 0 0 S).2.2.1 ++ (chk X tb 0 0 (chk X ta 0 0 S).2.2.2).2.2.1)).length = (ksE (chk X ta 0 0 S).2.2.1).length + (ksE (chk X tb 0 0 (chk X ta 0 0 S).2.2.2).2.2.1).length := by rw [eap, List.length_append]
        have a5' : KrL R sl (chk X tb 0 0 (chk X ta 0 0 S).2.2.2).2.2.2 T2 (ksE ((chk X ta 0 0 S).2.2.1 ++ (chk X tb 0 0 (chk X ta 0 0 S).2.2.2).2.2.1)) n := by
          rw [eap]
          exact KrL.ap _ _ _ (a5.fx b2 fe2 fx2 a4 (by omega)) b5
        rcases hO R sl _ h1 h2 (chk X ta 0 0 S).1 (chk X tb 0 0 (chk X ta 0 0 S).2.2.2).1 (n + (ksE (chk X ta 0 0 S).2.2.1).length + (ksE (chk X tb 0 0 (chk X ta 0 0 S).2.2.2).2.2.1).length) b1 (TyR.mo b2 (fun _ _ z => z) _ _ _ a3) b3 b4 (by omega) with q | ⟨c1, c2, c3, ⟨h3, c4, c5⟩, c6, c7⟩
        · exact Or.inr q
        · refine XOk.ap1 (kw1 := kwT ta + kwT tb) (a2.tr b2) (by rw [l2, ← Nat.add_assoc]; exact b4) a5' (by rw [l2]; omega) (a7.ap b7) (by omega) fx3 (by rw [show (opC (chk X tb 0 0 (chk X ta 0 0 S).2.2.2).2.2.2 (chK e) (chk X ta 0 0 S).1 (chk X tb 0 0 (chk X ta 0 0 S).2.2.2).1 (plT X ta) (plT X tb)).2 = _ from c1]; exact FE.rf) (by rw [show (opC (chk X tb 0 0 (chk X ta 0 0 S).2.2.2).2.2.2 (chK e) (chk X ta 0 0 S).1 (chk X tb 0 0 (chk X ta 0 0 S).2.2.2).1 (plT X ta) (plT X tb)).2 = _ from c1]; exact c2) (by rw [show (opC (chk X tb 0 0 (chk X ta 0 0 S).2.2.2).2.2.2 (chK e) (chk X ta 0 0 S).1 (chk X tb 0 0 (chk X ta 0 0 S).2.2.2).1 (plT X ta) (plT X tb)).2 = _ from c1]; exact c3) ?_ (by rw [l2, ← Nat.add_assoc]; exact c6) ?_ (by show ¬ (19 : Int32) = 7; decide) (by omega) (by omega)
          · rw [show (opC (chk X tb 0 0 (chk X ta 0 0 S).2.2.2).2.2.2 (chK e) (chk X ta 0 0 S).1 (chk X tb 0 0 (chk X ta 0 0 S).2.2.2).1 (plT X ta) (plT X tb)).2 = _ from c1]
            exact ⟨h3, c4⟩
          · rw [show (opC (chk X tb 0 0 (chk X ta 0 0 S).2.2.2).2.2.2 (chK e) (chk X ta 0 0 S).1 (chk X tb 0 0 (chk X ta 0 0 S).2.2.2).1 (plT X ta) (plT X tb)).2 = _ from c1, l2, ← Nat.add_assoc]
            exact KrO_19 c4 c5
      · rw [if_neg hBf.1]
        exact Or.inr (hBf.fx fx3)
    · dsimp only
      rw [if_neg hBf.1]
      exact Or.inr (hBf.fx (fx2.tr fx3))
  have := hQ y3 T3 hq3
  rw [← efl, eop] at this
  exact this
end CYM
