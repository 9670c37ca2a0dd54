/-! cell and row, whole -/
section CYE
variable {R : RgR} {S S' S0 S1 S2 T T' T1 T2 : gSt} {X : Lx} {nf d i k n m t e w c a b q g f h r s y z lo hi dd mb y1 y2 kd kw kw1 lv lv1 : Nat} {x v x' pl u1 u2 u3 op : Int32} {sl : Int32 → Int32} {ta tb tr : Tr} {zz j : T5} {js js2 : List T5} {C : ChR}
theorem XOk.up (hh : XOk R sl X S T C kw lv n y T') (h1 : kw ≤ kw1) (h2 : lv ≤ lv1) : XOk R sl X S T C kw1 lv1 n y T' := by
  rcases hh with ⟨a1, a2, a3, a4, a5, a6, a7, a8⟩ | hh
  · exact Or.inl ⟨a1, a2, a3, a4, a5, by omega, a7, by omega⟩
  · exact Or.inr hh
theorem FE.f4 {cc : Prop} [Decidable cc] : FE S (if cc then flT S 4 x else S) := by
  split
  · exact FE.fl (by decide)
  · exact FE.rf
theorem FE_md : FE S (mdC X (chk X tr) tr v x js S).2.2.2 := by
  have f1 : FE S (chk X tr 0 0 S).2.2.2 := chk_fe tr 0 0 S
  unfold mdC
  dsimp only
  refine f1.tr ?_
  refine FE.ifr ?_ ?_
  · dsimp only
    exact FE.f4.tr (FE.mk.tr FE.kn)
  · exact FE.f4
theorem p_cell (hX : XO X) (hnf : 16385 ≤ nf) (hz : ∀ q, xK X q = 4 → ¬ xN X q = 0) (hA : CE1 nf X ta) (hK : xK X i = 29) (hP : CeP X T (tD 8 i e ta tb) 0 lo hi z m dd d a b) : wp (PP nf d 156 T [nI lo, nI dd] []) (fun r _ T' => ∃ y, r = nI y ∧ CeQ X T (tD 8 i e ta tb) y T') := by
  obtain ⟨u1, u2, u3, u4, u5, u6, u7, u8, u9, u10, u11⟩ := e8_u hP
  have hxn := hX.1
  have hwf := hP.2.2.2.1
  have hb := hP.2.2.2.2.1
  obtain ⟨p1, p2, p3, p4, p5, p6, p7, p8, p9⟩ := hP
  rw [if_neg (by omega)] at u10
  obtain ⟨c, a', ⟨yl, c1, c2⟩, c3, c4⟩ := u10
  obtain ⟨d, rfl⟩ : ∃ g, d = g + 4 := ⟨d - 4, by omega⟩
  rw [e_156 (d := d + 3) (by omega) u4, u3, hK]
  simp only [show ¬ nI 29 = (2 : Int32) by decide, show ¬ nI 29 = (5 : Int32) by decide, show ¬ nI 29 = (27 : Int32) by decide, show ¬ nI 29 = (28 : Int32) by decide, show nI 29 = (29 : Int32) from rfl, if_false, if_true]
  have zl : inb (nI lo) 4008 := nin (by omega) (by omega)
  have k4 : xK X (i + 1) = 4 := by omega
  rw [e_Exprs_checkNewCell _ (d + 2)]
  unfold rb_Exprs_checkNewCell
  obtain ⟨rg, T2, l1, l2, l3, l4, l5⟩ := y_lrg (nf := nf) (d := d + 2) hX hnf p9 u11 (hz _ k4) (by omega)
  rw [gd, if_pos zl, nc (by omega), u4, nI_1, l1, bis, gd, if_pos zl, l3.o (k := 17) (by omega), u5, nI_1]
  refine wp_bi (R := fun r _ T' => ∃ y, r = nI y ∧ CeQ X T (tD 8 i e ta tb) y T') ?_ (fun r _ T' h => wp_some h)
  refine wp_mono (y_md (nf := nf) (d := d) (m := m - 1) (dd := dd + 1) (r := rg) (kd := 1) (op := 40) hX hnf hA ⟨c1.fx l3, by omega, p3, c3, c4, u7, by omega, by omega, p9.fx l3⟩ (by omega) (by rw [l3.o (by omega)]; exact c2) l2 (Or.inl rfl) rfl) ?_
  intro rr _ T' ⟨y, y1, y2, y3, y4⟩
  refine ⟨y, y1, y2, l3.tr y3, fun R sl S n hR hm => ?_⟩
  obtain ⟨o1, o2, o3, o4⟩ := hm
  have ck := ck_of hX hwf hb hR.2.1 o4
  have ekw : kwT (tD 8 i e ta tb) = kwT ta + kwT tb + 1 := rfl
  have elv : lvT X (tD 8 i e ta tb) = lvT X ta + lvT X tb + 1 := rfl
  have ech : chk X (tD 8 i e ta tb) 0 0 S = mdC X (chk X ta) ta 1 (srR X S (i + 1)) [] (slS X S (i + 1)) := by
    rw [chk_n, if_pos hR.h0]
    show (if xK X i = 29 then _ else _) = _
    rw [if_pos hK]
    rfl
  unfold XQ
  rw [ech] at o4 ck ⊢
  rcases l5 R sl S hR with hB | ⟨s1, s2, cc, s3, s4⟩
  · rw [mdC_n hB.1]
    exact Or.inr (hB.fx y3)
  · subst s2
    rw [s1, s3] at o4 ck ⊢
    refine (y4 R sl S S T2 n cc [] 0 0 hR TyF.rf o1 trivial (Nat.le_refl 0) kGo.nl (by omega) (by omega) (by omega) s4 (by have := hR.2.2.2.2.1 _ _ s4; omega) o4 ck).up (by omega) (by omega)
theorem p_row (hX : XO X) (hnf : 16385 ≤ nf) (hz : ∀ q, xK X q = 4 → ¬ xN X q = 0) (hA : CE1 nf X ta) (hB : CE1 nf X tb) (hK : xK X i = 30) (hP : CeP X T (tD 8 i e ta tb) 0 lo hi z m dd d a b) : wp (PP nf d 156 T [nI lo, nI dd] []) (fun r _ T' => ∃ y, r = nI y ∧ CeQ X T (tD 8 i e ta tb) y T') := by
  obtain ⟨u1, u2, u3, u4, u5, u6, u7, u8, u9, u10, u11⟩ := e8_u hP
  have hxn := hX.1
  have hwf := hP.2.2.2.1
  have hb := hP.2.2.2.2.1
  obtain ⟨p1, p2, p3, p4, p5, p6, p7, p8, p9⟩ := hP
  rw [if_pos hK] at u10
  obtain ⟨mm, c, cc2, v1, v2, ⟨yl, c1, c2⟩, v3, ⟨yl2, c3, c4⟩, v4, v5, v6, v7⟩ := u10
  have u9' := u9 hK
  obtain ⟨d, rfl⟩ : ∃ g, d = g + 4 := ⟨d - 4, by omega⟩
  rw [e_156 (d := d + 3) (by omega) u4, u3, hK]
  simp only [show ¬ nI 30 = (2 : Int32) by decide, show ¬ nI 30 = (5 : Int32) by decide, show ¬ nI 30 = (27 : Int32) by decide, show ¬ nI 30 = (28 : Int32) by decide, show ¬ nI 30 = (29 : Int32) by decide, show nI 30 = (30 : Int32) from rfl, if_false, if_true]
  have zl : inb (nI lo) 4008 := nin (by omega) (by omega)
  have zl1 : inb (nI (lo + 1)) 4008 := nin (by omega) (by omega)
  have k4 : xK X (i + 1) = 4 := by omega
  rw [e_Exprs_checkNewRow _ (d + 2)]
  unfold rb_Exprs_checkNewRow
  obtain ⟨rg, T2, l1, l2, l3, l4, l5⟩ := y_lrg (nf := nf) (d := d + 2) hX hnf p9 u11 (hz _ k4) (by omega)
  rw [gd, if_pos zl, nc (by omega), u4, nI_1, l1, bis, gd, if_pos zl, l3.o (k := 17) (by omega), u5, vK, nI_1]
  have x2 := p9.fx l3
  refine wp_bi (R := fun r _ T' => ∃ y, r = nI y ∧ CeQ X T (tD 8 i e ta tb) y T') ?_ (fun r _ T' h => wp_some h)
  refine wp_bi (hA.run (d := d + 1) (m := m - 1) (dd := dd + 1) hnf hX ⟨c1.fx l3, by omega, by omega, v4, v7, u7, by omega, by omega, x2⟩ (by omega) (by rw [l3.o (by omega)]; exact c2)) ?_
  intro r5 _ T5 ⟨y5, e5, y2, y3, y4⟩
  have yl5 := y2.lt
  have x5 := x2.fx y3
  have f5 := l3.tr y3
  have q1 : (nI y5 = (1 : Int32)) = (y5 = 1) := ci_eq (j := 1) (by omega) (by omega)
  rw [e5]
  have ekw : kwT (tD 8 i e ta tb) = kwT ta + kwT tb + 1 := rfl
  have elv : lvT X (tD 8 i e ta tb) = lvT X ta + lvT X tb + 1 := rfl
  have ech : ∀ S : gSt, S.1 7 0 = 0 → chk X (tD 8 i e ta tb) 0 0 S = rwC X (chk X ta) (chk X tb) ta tb i S := fun S h0 => by
    rw [chk_n, if_pos h0]
    show (if xK X i = 29 then _ else if xK X i = 30 then _ else _) = _
    rw [if_neg (by omega), if_pos hK]
  -- from the size on
  have tail : ∀ y0 : Int32, (y0 = 0 ↔ ¬ y5 = 1) → wp (rj_Exprs_checkNewRow_46 (PP nf (d + 2)) nf T5 (nI dd) (nI rg) (nI (lo + 1)) y0) (fun r _ T' => ∃ y, r = nI y ∧ CeQ X T (tD 8 i e ta tb) y T') := by
    intro y0 hy0
    unfold rj_Exprs_checkNewRow_46
    rw [x_begin (nf := nf) (d := d + 2) hX hnf x5.1 (c1.fx f5) (by omega) u7 (by omega) v4 v7 (by omega), bis, c_dem (by omega), bis]
    generalize hT8 : (if y0 = 0 then ntS T5 4 (plT X ta) else T5) = T8
    have f8 : FX T5 T8 := by rw [← hT8]; exact FX.dm y3.2.2.1
    have x8 := x5.fx f8
    have f58 := f5.tr f8
    rw [gd, if_pos zl1, nc (by omega), f58.o (k := 14) (by omega), v3, nI_1]
    refine wp_mono (y_md (nf := nf) (d := d) (m := m - 1) (dd := dd + 1) (r := rg) (kd := 3) (op := 42) hX hnf hB ⟨c3.fx f58, by omega, p3, v5, v6, u9', by omega, by omega, x8⟩ (by omega) (by rw [f58.o (by omega)]; exact c4) l2 (Or.inr rfl) rfl) ?_
    intro rr _ T' ⟨y, z1, z2, z3, z4⟩
    refine ⟨y, z1, z2, f58.tr z3, fun R sl S n hR hm => ?_⟩
    obtain ⟨o1, o2, o3, o4⟩ := hm
    have ck := ck_of hX hwf hb hR.2.1 o4
    unfold XQ
    rw [ech S hR.h0] at o4 ck ⊢
    unfold rwC at o4 ck ⊢
    dsimp only at o4 ck ⊢
    rcases l5 R sl S hR with hBf | ⟨s1, s2, cc, s3, s4⟩
    · rw [if_neg hBf.1]
      exact Or.inr (hBf.fx ((y3.tr f8).tr z3))
    · subst s2
      rw [s1, if_pos hR.h0, s3] at o4 ck ⊢
      have fe1 : FE S (chk X ta 0 0 S).2.2.2 := chk_fe ta 0 0 S
      have cA : cn (chk X ta 0 0 S).2.2.2 < 6000 := by
        have tg1 := fe1.tg hR.2.1.1
        refine FE.lt ?_ tg1 o4
        exact FE.f4.tr FE_md
      have qA := y4 R sl S n hR ⟨o1, by omega, by omega, cA⟩
      unfold XQ XOk at qA
      rcases qA with ⟨a1, a2, ⟨h1, a3⟩, a4, a5, a6, a7, a8⟩ | hBf
      · by_cases c1' : y5 = 1
        · have e0 : (chk X ta 0 0 S).1 = 0 := a3.y1.mpr c1'
          have eT : T8 = T5 := by rw [← hT8, if_neg (fun w => hy0.mp w c1')]
          rw [if_neg (show ¬ ((chk X ta 0 0 S).2.2.2.1 7 0 = 0 ∧ ¬ (chk X ta 0 0 S).1 = 0) from fun w => w.2 e0)] at o4 ck ⊢
          subst eT
          exact (z4 R sl S (chk X ta 0 0 S).2.2.2 T2 n cc (chk X ta 0 0 S).2.2.1 (kwT ta) (lvT X ta) a1 a2 a4 a5 a6 a7 a8 (by omega) (by omega) s4 (by have := hR.2.2.2.2.1 _ _ s4; omega) o4 ck).up (by omega) (by omega)
        · have e0 : ¬ (chk X ta 0 0 S).1 = 0 := fun w => c1' (a3.y1.mp w)
          have bf : BfR (flT (chk X ta 0 0 S).2.2.2 4 (plT X ta)) T8 := by
            rw [← hT8, if_pos (hy0.mpr c1')]
            exact bf_nt (a := 4) a1.h0 a1.h53 (by decide)
          rw [if_pos (show (chk X ta 0 0 S).2.2.2.1 7 0 = 0 ∧ ¬ (chk X ta 0 0 S).1 = 0 from ⟨a1.h0, e0⟩), mdC_n bf.1]
          exact Or.inr (bf.fx z3)
      · rw [if_neg (show ¬ ((chk X ta 0 0 S).2.2.2.1 7 0 = 0 ∧ ¬ (chk X ta 0 0 S).1 = 0) from fun w => hBf.1 w.1), mdC_n hBf.1]
        exact Or.inr (hBf.fx (f8.tr z3))
  by_cases c1' : y5 = 1
  · rw [if_pos (q1.mpr c1')]
    exact tail 1 ⟨fun w => absurd w (by decide), fun w => absurd c1' w⟩
  · rw [if_neg (fun w => c1' (q1.mp w))]
    exact tail 0 ⟨fun _ => c1', fun _ => rfl⟩
/-- an own node with EXPRS in it -/
theorem e_k8 (hX : XO X) (hnf : 16385 ≤ nf) (hz : ∀ q, xK X q = 4 → ¬ xN X q = 0) (hA : CE1 nf X ta) (hB : CE1 nf X tb) : CE0 nf X (tD 8 i e ta tb) := by
  refine e_prim hX hnf rfl (fun T lo hi z h => ?_) ?_
  · rw [RcG_n] at h
    unfold RcN Rc0 at h
    rw [if_neg (by omega), if_neg (by omega), if_neg (by omega), if_neg (by omega), if_neg (by omega), if_neg (by omega), if_neg (by omega), if_neg (by omega), if_pos rfl] at h
    exact h.2.1
  intro T lo hi z a b m dd d hP
  have u8 := (e8_u hP).2.2.2.2.2.2.2.1
  by_cases c31 : xK X i = 31
  · exact p_nn hX hnf hA c31 hP
  by_cases c32 : xK X i = 32
  · exact p_size hX hnf hA c32 hP
  by_cases c29 : xK X i = 29
  · exact p_cell hX hnf hz hA c29 hP
  exact p_row hX hnf hz hA hB (by omega) hP
end CYE
