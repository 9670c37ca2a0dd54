/-! a tail [ ] ; a TERM and its PRIMARY -/
section CXZ
variable {R : RgR} {S S' S1 S2 T T' T1 T2 : gSt} {X : Lx} {nf d i k n m t e w c a b q g f h r s y z lo hi dd mb y1 y2 : Nat} {x v x' pl : Int32} {sl : Int32 → Int32} {ta tb tr : Tr}
theorem e_tl4 (hX : XO X) (hnf : 16385 ≤ nf) (hA : CE0 nf X ta) (hB : CE1 nf X tb) : CE0 nf X (tD 4 i e ta tb) := by
  intro T lo hi z a b m dd d stop Q hP hs1 hs2 hQ
  obtain ⟨p1, p2, p3, p4, p5, p6, p7, p8, p9⟩ := hP
  have hxn := hX.1
  rw [RcG_n] at p1
  unfold RcN Rc0 at p1
  rw [if_neg (by omega), if_neg (by omega), if_neg (by omega), if_neg (by omega), if_neg (by omega), if_pos rfl] at p1
  obtain ⟨r1, r2, ⟨z', r3, r4⟩, r5, r6, r7, r8⟩ := p1
  rw [XG_n] at p6
  unfold xgN at p6
  rw [if_neg (by omega), if_neg (by omega), if_neg (by omega), if_neg (by omega), if_pos rfl] at p6
  obtain ⟨g0, g1, g2, g3⟩ := p6
  have p4' := p4
  rw [Wf_n] at p4
  unfold WfN at p4
  rw [if_neg (by decide), if_neg (by omega), if_neg (by omega), if_neg (by omega), if_pos rfl] at p4
  obtain ⟨f1, c, f2, f3⟩ := p4
  have tl := tl_le ta a i f1
  have le2 := (Wf_le _ false _ _ f2).1 rfl
  refine hA T lo z z' a i m dd d stop Q ⟨r3, p2, by omega, f1, by omega, g1, p7, p8, p9⟩ (by omega) hs2 ?_
  intro y1 T1 hq
  have fx1 := hq.2.1
  have lk : (if z' = 0 then T.1 18 lo else T.1 13 z') = nI z := by
    unfold lkT at r4
    split
    · rename_i c0
      rw [if_pos c0] at r4
      exact r4
    · rename_i c0
      rw [if_neg c0] at r4
      exact r4
  have x1 := p9.fx fx1
  obtain ⟨fl, hfl⟩ : ∃ g, nf - tlN ta = g + 1 := ⟨nf - tlN ta - 1, by omega⟩
  rw [lk, hfl, t44_s (by omega) (by omega) (by omega) hs2 (by omega), fx1.o (k := 11) (by omega), r5, if_neg (by decide)]
  have efl : fl = nf - tlN (tD 4 i e ta tb) := by rw [tlN_n, if_pos (Or.inr rfl)]; omega
  have ebg : bgT (tD 4 i e ta tb) = bgT ta := rfl
  have etl : tlN (tD 4 i e ta tb) = tlN ta + 1 := rfl
  have z0 : ¬ z = 0 := by omega
  obtain ⟨d1, hd1⟩ : ∃ g, d = g + 1 := ⟨d - 1, by omega⟩
  have zz : inb (nI z) 4008 := nin (by omega) (by omega)
  have e149 : PP nf d 149 T1 [nI z, nI y1, nI (xP X (bgT ta)), (0 : Int32), nI dd] [] = (bi (PP nf d1 153 T1 [nI z, nI y1, nI (xP X (bgT ta)), (0 : Int32), nI dd] []) fun r3 _ T3 => some (r3, 0, T3)) := by
    rw [hd1, e_Exprs_checkPlace]
    unfold rb_Exprs_checkPlace
    rw [gd, if_pos zz, nc (by omega), fx1.o (k := 11) (by omega), r5, if_pos rfl]
  rw [e149]
  refine wp_bi (R := fun r _ T2 => ∃ y2, r = nI y2 ∧ CeQ X T (tD 4 i e ta tb) y2 T2) ?_ ?_
  · have hc : cRX T1 (RcG X T1 tb) (z + 1) hi := by
      obtain ⟨yl, c1, c2⟩ := r8
      exact ⟨yl, c1.fx fx1, by rw [fx1.o (by omega)]; exact c2⟩
    refine wp_bi (y_idx (nf := nf) (d := d1) (u := 0) (pl := nI (xP X (bgT ta))) hX hnf hB x1 hq.1 (by omega) (by omega) (by rw [fx1.o (by omega)]; exact r7) hc p3 f2 (by omega) g3 (by omega) (by omega) (by omega)) ?_
    intro r _ T2 ⟨⟨y2, u1, u2, u3⟩, u4⟩
    refine wp_some ⟨y2, u1, u2, fx1.tr u3, fun R sl S n hR hm => ?_⟩
    obtain ⟨m1, m2, m3, m4⟩ := hm
    have ekw : kwT (tD 4 i e ta tb) = kwT ta + kwT tb + 1 := rfl
    have elv : lvT X (tD 4 i e ta tb) = lvT X ta + lvT X tb := rfl
    have ck := ck_of hX p4' p5 hR.2.1 m4
    have ech : chk X (tD 4 i e ta tb) 0 0 S = exC X (chk X ta) (chk X tb) ta tb S := by rw [chk_n, if_pos hR.h0]; rfl
    unfold XQ
    rw [ekw] at m2 ⊢
    rw [elv] at m3 ⊢
    rw [ech] at m4 ck ⊢
    unfold exC at m4 ck ⊢
    have fe1 : FE S (chk X ta 0 0 S).2.2.2 := chk_fe ta 0 0 S
    have fe2 : FE (chk X ta 0 0 S).2.2.2 (chk X tb 0 0 (chk X ta 0 0 S).2.2.2).2.2.2 := chk_fe tb 0 0 _
    have tg1 := fe1.tg hR.2.1.1
    have cB : (chk X ta 0 0 S).2.2.2.1 7 0 = 0 → cn (chk X tb 0 0 (chk X ta 0 0 S).2.2.2).2.2.2 < 6000 := fun h0 => by
      dsimp only at m4
      rw [if_pos h0] at m4
      split at m4
      · exact FE.ix.lt (fe2.tg tg1) m4
      · exact m4
    have cA : cn (chk X ta 0 0 S).2.2.2 < 6000 := by
      by_cases h0 : (chk X ta 0 0 S).2.2.2.1 7 0 = 0
      · exact fe2.lt tg1 (cB h0)
      · dsimp only at m4
        rw [if_neg h0] at m4
        exact m4
    have qA := hq.2.2 R sl S n hR ⟨m1, by omega, by omega, cA⟩
    unfold XQ XOk at qA
    rcases qA with ⟨a1, a2, ⟨h1, a3⟩, a4, a5, a6, a7, a8⟩ | hBf
    · dsimp only at m4 ck ⊢
      rw [if_pos a1.h0] at m4 ck ⊢
      have cB1 := cB a1.h0
      have ckI : Ck (ixC (chk X tb 0 0 (chk X ta 0 0 S).2.2.2).2.2.2 (chk X ta 0 0 S).1 (chk X tb 0 0 (chk X ta 0 0 S).2.2.2).1 (nI (xP X (bgT ta))) (plT X tb)).2 ∨ ¬ (chk X tb 0 0 (chk X ta 0 0 S).2.2.2).2.2.2.1 7 0 = 0 := by
        by_cases h0 : (chk X tb 0 0 (chk X ta 0 0 S).2.2.2).2.2.2.1 7 0 = 0
        · rw [if_pos h0] at ck
          exact Or.inl ck
        · exact Or.inr h0
      have ckB := ck_of hX f2 (by omega) a1.2.1 cB1
      have ckI2 : Ck (ixC (chk X tb 0 0 (chk X ta 0 0 S).2.2.2).2.2.2 (chk X ta 0 0 S).1 (chk X tb 0 0 (chk X ta 0 0 S).2.2.2).1 (nI (xP X (bgT ta))) (plT X tb)).2 := by
        rcases ckI with w | w
        · exact w
        · have : (ixC (chk X tb 0 0 (chk X ta 0 0 S).2.2.2).2.2.2 (chk X ta 0 0 S).1 (chk X tb 0 0 (chk X ta 0 0 S).2.2.2).1 (nI (xP X (bgT ta))) (plT X tb)).2 = (chk X tb 0 0 (chk X ta 0 0 S).2.2.2).2.2.2 ∨ (ixC (chk X tb 0 0 (chk X ta 0 0 S).2.2.2).2.2.2 (chk X ta 0 0 S).1 (chk X tb 0 0 (chk X ta 0 0 S).2.2.2).1 (nI (xP X (bgT ta))) (plT X tb)).2 = sI (chk X tb 0 0 (chk X ta 0 0 S).2.2.2).2.2.2 89 0 ((chk X tb 0 0 (chk X ta 0 0 S).2.2.2).2.2.2.1 89 0 + 1) := by
            unfold ixC flT
            simp only [if_neg w]
            repeat' split
            all_goals first | exact Or.inl rfl | exact Or.inr rfl
          rcases this with v | v
          · rw [v]; exact ckB
          · rw [v]; exact ckB.wr (by omega) cB1
      rcases u4 R sl _ (n + (ksE (chk X ta 0 0 S).2.2.1).length) y2 h1 _ u1 u2.lt a1 a3 a4 (by omega) (by omega) cB1 ckI2 with q | ⟨h0, q | ⟨b1, b2, b3, b4, b5, ⟨cc, b6, b7⟩, b8, b9, b10⟩⟩
      · rw [if_neg q.1]
        exact Or.inr q
      · rw [if_pos h0]
        exact Or.inr q
      · rw [if_pos h0] at m4 ck ⊢
        have fI : FE (chk X ta 0 0 S).2.2.2 (ixC (chk X tb 0 0 (chk X ta 0 0 S).2.2.2).2.2.2 (chk X ta 0 0 S).1 (chk X tb 0 0 (chk X ta 0 0 S).2.2.2).1 (nI (xP X (bgT ta))) (plT X tb)).2 := fe2.tr FE.ix
        have n7 : ¬ (j1 8 (chk X ta 0 0 S).1 (ixC (chk X tb 0 0 (chk X ta 0 0 S).2.2.2).2.2.2 (chk X ta 0 0 S).1 (chk X tb 0 0 (chk X ta 0 0 S).2.2.2).1 (plT X ta) (plT X tb)).1 0 0).1 = 7 := by
          show ¬ (8 : Int32) = 7
          decide
        have ek := ksE_n (js := (chk X ta 0 0 S).2.2.1 ++ (chk X tb 0 0 (chk X ta 0 0 S).2.2.2).2.2.1) n7
        have ek2 := ksE_ap (js := (chk X ta 0 0 S).2.2.1) b9
        refine Or.inl ⟨b1, a2.tr b2, b3, ?_, ?_, ?_, (a7.ap b9).nx n7, by omega⟩
        · dsimp only
          rw [ek, ek2, List.length_append, List.length_append]
          show T2.1 51 0 = nI (n + ((ksE (chk X ta 0 0 S).2.2.1).length + (ksE (chk X tb 0 0 (chk X ta 0 0 S).2.2.2).2.2.1).length + 1))
          rw [b4]
          congr 1
          omega
        · dsimp only
          rw [ek, ek2]
          refine KrL.ap _ _ _ (KrL.ap _ _ _ (a5.fx b2 fI u3 a4 (by omega)) b5) ⟨KrO_8 b6 ?_, trivial⟩
          rw [List.length_append, ← Nat.add_assoc]
          exact b7
        · dsimp only
          rw [ek, ek2, List.length_append, List.length_append]
          show _ + 1 ≤ _
          omega
    · dsimp only
      rw [if_neg hBf.1]
      exact Or.inr (hBf.fx u3)
  · intro r _ T2 ⟨y2, u1, u2⟩
    rw [u1]
    have := hQ y2 T2 u2
    rw [if_neg z0, ← efl, ebg, etl] at this
    have f12 : T2.1 13 z = T.1 13 z := by rw [u2.2.1.o (by omega)]
    rw [f12]
    exact this
/-- a PRIMARY is a TERM -/
theorem e_prim (hX : XO X) (hnf : 16385 ≤ nf) (ht : tlN tr = 0) (hz0 : ∀ T lo hi z, RcG X T tr 0 lo hi z → z = 0) (hp : ∀ (T : gSt) (lo hi z a b m dd d : Nat), CeP X T tr 0 lo hi z m dd d a b → wp (PP nf d 156 T [nI lo, nI dd] []) (fun r _ T' => ∃ y, r = nI y ∧ CeQ X T tr y T')) : CE0 nf X tr := by
  intro T lo hi z a b m dd d stop Q hP hs1 hs2 hQ
  refine wp_bi (hp T lo hi z a b m dd d hP) ?_
  obtain ⟨p1, p2, p3, p4, p5, p6, p7, p8, p9⟩ := hP
  intro r _ T1 ⟨y, e1, hq⟩
  have fx1 := hq.2.1
  have lh := (Rc_le tr 0 lo hi z (by omega) p1).1 rfl
  have fs := XG.fs tr m 0 (by omega) p6
  rw [e1, c_begin (nf := nf) (d := d) (mo := 0) hX (by omega) (p9.1.fx fx1) (by omega) (p1.fx fx1) p3 (by omega) fs.2 p4 p5 (by omega), bis, gd, if_pos (nin (by omega) (by omega)), nc (by omega), vK]
  have := hQ y T1 hq
  rw [ht, if_pos (hz0 T lo hi z p1)] at this
  rw [fx1.o (k := 18) (by omega)]
  exact this
end CXZ
