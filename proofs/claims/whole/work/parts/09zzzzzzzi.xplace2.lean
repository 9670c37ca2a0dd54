/-! an element of a row that isn't fetched -/
section CYI
variable {R : RgR} {S S' S0 S1 S2 T T' T1 T2 : gSt} {X : Lx} {nf d i k n m t e w c a b q g f h r s y z lo hi dd mb y1 y2 kd kw kw1 lv lv1 st u : Nat} {x v x' pl u1 u2 u3 op : Int32} {sl : Int32 → Int32} {ta tb tr : Tr}
theorem y_pl4 (hX : XO X) (hnf : 16385 ≤ nf) (hA : CE0 nf X ta) (hB : CE1 nf X tb) (hu : u = 1 ∨ u = 2) (hP : CeP X T (tD 4 i e ta tb) 0 lo hi z m dd d a b) {K : Int32 → Int32 → gSt → gR} {Q : Int32 → Int64 → gSt → Prop} (hQ : ∀ y1 y2 T2, PlP X T (tD 4 i e ta tb) u y1 y2 T2 → wp (K (nI y1) (nI y2) T2) Q) : wp (bi (PP nf (d + 1) 148 T [nI lo, nI z, nI dd] []) fun r15 _ T15 => bi (PP nf (d + 1) 149 T15 [nI z, r15, plT X (tD 4 i e ta tb), nI u, nI dd] []) fun r16 _ T16 => K r15 r16 T16) Q := by
  obtain ⟨p1, p2, p3, p4, p5, p6, p7, p8, p9⟩ := hP
  have hxn := hX.1
  rw [RcG_n] at p1
  unfold RcN Rc0 at p1
  rw [if_neg (by omega), if_neg (by omega), if_neg (by omega), if_neg (by omega), if_neg (by omega), if_pos rfl] at p1
  obtain ⟨r1, r2, ⟨z', r3, r4⟩, r5, r6, r7, r8⟩ := p1
  rw [XG_n] at p6
  unfold xgN at p6
  rw [if_neg (by omega), if_neg (by omega), if_neg (by omega), if_neg (by omega), if_pos rfl] at p6
  obtain ⟨g0, g1, g2, g3⟩ := p6
  have p4' := p4
  rw [Wf_n] at p4
  unfold WfN at p4
  rw [if_neg (by decide), if_neg (by omega), if_neg (by omega), if_neg (by omega), if_pos rfl] at p4
  obtain ⟨f1, c, f2, f3⟩ := p4
  have le2 := (Wf_le _ false _ _ f2).1 rfl
  have lk : (if z' = 0 then T.1 18 lo else T.1 13 z') = nI z := by
    unfold lkT at r4
    split
    · rename_i c0
      rw [if_pos c0] at r4
      exact r4
    · rename_i c0
      rw [if_neg c0] at r4
      exact r4
  refine wp_bi (hA.stop (d := d) hX hnf ⟨r3, p2, by omega, f1, by omega, g1, p7, p8, p9⟩ (Or.inr (Nat.le_refl _)) (by omega) lk) ?_
  intro r _ T1 ⟨y1, e1, hq⟩
  rw [e1]
  have fx1 := hq.2.1
  have x1 := p9.fx fx1
  have zz : inb (nI z) 4008 := nin (by omega) (by omega)
  have epl : plT X (tD 4 i e ta tb) = plT X ta := rfl
  have e149 : PP nf (d + 1) 149 T1 [nI z, nI y1, plT X ta, nI u, nI dd] [] = (bi (PP nf d 153 T1 [nI z, nI y1, plT X ta, nI u, nI dd] []) fun r3 _ T3 => some (r3, 0, T3)) := by
    rw [e_Exprs_checkPlace]
    unfold rb_Exprs_checkPlace
    rw [gd, if_pos zz, nc (by omega), fx1.o (k := 11) (by omega), r5, if_pos rfl]
  rw [epl, e149]
  have ekw : kwT (tD 4 i e ta tb) = kwT ta + kwT tb + 1 := rfl
  have elv : lvT X (tD 4 i e ta tb) = lvT X ta + lvT X tb := rfl
  have etk : tkd X (tD 4 i e ta tb) = 15 := rfl
  refine wp_bi (R := fun r _ T2 => ∃ y2, r = nI y2 ∧ PlP X T (tD 4 i e ta tb) u y1 y2 T2) ?_ ?_
  · have hc : cRX T1 (RcG X T1 tb) (z + 1) hi := by
      obtain ⟨yl, c1, c2⟩ := r8
      exact ⟨yl, c1.fx fx1, by rw [fx1.o (by omega)]; exact c2⟩
    refine wp_bi (y_idx (nf := nf) (d := d) (u := u) (pl := plT X ta) hX hnf hB x1 hq.1 (by omega) (by omega) (by rw [fx1.o (by omega)]; exact r7) hc p3 f2 (by omega) g3 (by omega) (by omega) (by omega)) ?_
    intro r _ T2 ⟨⟨y2, u1, u2, u3⟩, u4⟩
    refine wp_some ⟨y2, u1, u3.2.2.2.1 _ hq.1, u2, fx1.tr u3, fun R sl S n hR hm => ?_⟩
    obtain ⟨m1, m2, m3, m4⟩ := hm
    have ck := ck_of hX p4' p5 hR.2.1 m4
    have ech : chk X (tD 4 i e ta tb) 0 0 S = exC X (chk X ta) (chk X tb) ta tb S := by rw [chk_n, if_pos hR.h0]; rfl
    rw [ekw] at m2 ⊢
    rw [elv] at m3 ⊢
    rw [epl, etk]
    rw [ech] at m4 ck ⊢
    unfold exC at m4 ck ⊢
    have fe1 : FE S (chk X ta 0 0 S).2.2.2 := chk_fe ta 0 0 S
    have fe2 : FE (chk X ta 0 0 S).2.2.2 (chk X tb 0 0 (chk X ta 0 0 S).2.2.2).2.2.2 := chk_fe tb 0 0 _
    have tg1 := fe1.tg hR.2.1.1
    have cB : (chk X ta 0 0 S).2.2.2.1 7 0 = 0 → cn (chk X tb 0 0 (chk X ta 0 0 S).2.2.2).2.2.2 < 6000 := fun h0 => by
      dsimp only at m4
      rw [if_pos h0] at m4
      split at m4
      · exact FE.ix.lt (fe2.tg tg1) m4
      · exact m4
    have cA : cn (chk X ta 0 0 S).2.2.2 < 6000 := by
      by_cases h0 : (chk X ta 0 0 S).2.2.2.1 7 0 = 0
      · exact fe2.lt tg1 (cB h0)
      · dsimp only at m4
        rw [if_neg h0] at m4
        exact m4
    have qA := hq.2.2 R sl S n hR ⟨m1, by omega, by omega, cA⟩
    unfold XQ XOk at qA
    rcases qA with ⟨a1, a2, ⟨h1, a3⟩, a4, a5, a6, a7, a8⟩ | hBf
    · dsimp only at m4 ck ⊢
      rw [if_pos a1.h0] at m4 ck ⊢
      have cB1 := cB a1.h0
      have ckB := ck_of hX f2 (by omega) a1.2.1 cB1
      have ckI2 : Ck (ixC (chk X tb 0 0 (chk X ta 0 0 S).2.2.2).2.2.2 (chk X ta 0 0 S).1 (chk X tb 0 0 (chk X ta 0 0 S).2.2.2).1 (plT X ta) (plT X tb)).2 := by
        by_cases h0 : (chk X tb 0 0 (chk X ta 0 0 S).2.2.2).2.2.2.1 7 0 = 0
        · rw [if_pos h0] at ck
          exact ck
        · have : (ixC (chk X tb 0 0 (chk X ta 0 0 S).2.2.2).2.2.2 (chk X ta 0 0 S).1 (chk X tb 0 0 (chk X ta 0 0 S).2.2.2).1 (plT X ta) (plT X tb)).2 = (chk X tb 0 0 (chk X ta 0 0 S).2.2.2).2.2.2 ∨ (ixC (chk X tb 0 0 (chk X ta 0 0 S).2.2.2).2.2.2 (chk X ta 0 0 S).1 (chk X tb 0 0 (chk X ta 0 0 S).2.2.2).1 (plT X ta) (plT X tb)).2 = sI (chk X tb 0 0 (chk X ta 0 0 S).2.2.2).2.2.2 89 0 ((chk X tb 0 0 (chk X ta 0 0 S).2.2.2).2.2.2.1 89 0 + 1) := by
            unfold ixC flT
            simp only [if_neg h0]
            repeat' split
            all_goals first | exact Or.inl rfl | exact Or.inr rfl
          rcases this with v | v
          · rw [v]; exact ckB
          · rw [v]; exact ckB.wr (by omega) cB1
      rcases u4 R sl _ (n + (ksE (chk X ta 0 0 S).2.2.1).length) y2 h1 _ u1 u2.lt a1 a3 a4 (by omega) (by omega) cB1 ckI2 with q | ⟨h0, q | ⟨b1, b2, b3, b4, b5, ⟨cc, b6, b7⟩, b8, b9, b10⟩⟩
      · rw [if_neg q.1]
        exact Or.inl q
      · rw [if_pos h0]
        exact Or.inl q
      · rw [if_pos h0] at m4 ck ⊢
        have fI : FE (chk X ta 0 0 S).2.2.2 (ixC (chk X tb 0 0 (chk X ta 0 0 S).2.2.2).2.2.2 (chk X ta 0 0 S).1 (chk X tb 0 0 (chk X ta 0 0 S).2.2.2).1 (plT X ta) (plT X tb)).2 := fe2.tr FE.ix
        refine Or.inr ⟨b1.h0, false, ⟨fun w => absurd w (by decide), fun w => absurd w.1 (by decide)⟩, Or.inr ?_⟩
        have ep : ∀ S0 : gSt, plE u false (plT X ta) S0 = S0 := fun _ => rfl
        rw [ep]
        have ek2 := ksE_ap (js := (chk X ta 0 0 S).2.2.1) b9
        have l2 : (ksE ((chk X ta 0 0 S).2.2.1 ++ (chk X tb 0 0 (chk X ta 0 0 S).2.2.2).2.2.1)).length = (ksE (chk X ta 0 0 S).2.2.1).length + (ksE (chk X tb 0 0 (chk X ta 0 0 S).2.2.2).2.2.1).length := by rw [ek2, List.length_append]
        refine ⟨b1, a2.tr b2, b3, ⟨h1, TyR.mo b2 (fun _ _ z => z) _ _ _ a3⟩, ⟨(chk X ta 0 0 S).2.2.1 ++ (chk X tb 0 0 (chk X ta 0 0 S).2.2.2).2.2.1, _, rfl, a7.ap b9, ?_, ?_, by rw [l2]; omega, Or.inr (Or.inl ⟨rfl, cc, b6, ?_⟩)⟩, by omega, FE.rf⟩
        · rw [l2, ← Nat.add_assoc]
          exact b4
        · rw [ek2]
          exact KrL.ap _ _ _ (a5.fx b2 fI u3 a4 (by omega)) b5
        · rw [l2, ← Nat.add_assoc, b7]
          rcases hu with w | w
          · subst w; rfl
          · subst w; rfl
    · dsimp only
      rw [if_neg hBf.1]
      exact Or.inl (hBf.fx u3)
  · intro r _ T2 ⟨y2, u1, u2⟩
    rw [u1]
    exact hQ y1 y2 T2 u2
end CYI
