/-! a call -/
section CYS
variable {R : RgR} {S S' S0 S1 S2 T T' T1 T2 : gSt} {X : Lx} {nf d i k n m t e w c a b q g f h r s y z lo hi dd mb y1 y2 kd kw kw1 lv lv1 st u h1 h2 zw np N W cnt : Nat} {x v x' pl pr u1 u2 u3 op x1 x2 : Int32} {sl : Int32 → Int32} {ta tb tr : Tr} {o : Bool}
theorem rg_dg (h00 : R 0 0) (hc : cnt ≤ 3) (hW : W < 1024 ^ cnt) (hg : g < 16 ^ cnt) (h : ∀ k, k < cnt → R (W / 1024 ^ k % 1024) (g / 16 ^ k % 16)) : DgR R W g := by
  have g3 : g < 4096 := by
    have := Nat.pow_le_pow_right (show 16 > 0 by omega) hc
    have e : (16 : Nat) ^ 3 = 4096 := rfl
    omega
  refine ⟨pw3 hc hW, g3, fun k hk => ?_⟩
  by_cases c : k < cnt
  · exact h k c
  · have a1 : W < 1024 ^ k := Nat.lt_of_lt_of_le hW (Nat.pow_le_pow_right (by omega) (by omega))
    have a2 : g < 16 ^ k := Nat.lt_of_lt_of_le hg (Nat.pow_le_pow_right (by omega) (by omega))
    rw [Nat.div_eq_of_lt a1, Nat.div_eq_of_lt a2]
    exact h00
theorem DgR.pk (h : DgR R W g) (hR : ∀ c m, R c m → c < 12 ∧ m < 12) : PK (nI W) 3 := fun j hj => ⟨⟨W / 1024 ^ j % 1024, pt_nI h.1 hj, (hR _ _ (h.2.2 j hj)).1⟩, fun w => by omega⟩
theorem e_call (hX : XO X) (hnf : 16385 ≤ nf) (hz : ∀ q, xK X q = 4 → ¬ xN X q = 0) (hI : ∀ t, ndT t < ndT (tD 6 i e ta tb) → CE1 nf X t) : CE0 nf X (tD 6 i e ta tb) := by
  refine e_prim hX hnf rfl (fun T lo hi z h => ?_) ?_
  · rw [RcG_n] at h
    unfold RcN Rc0 at h
    rw [if_neg (by omega), if_neg (by omega), if_neg (by omega), if_neg (by omega), if_neg (by omega), if_neg (by omega), if_pos rfl] at h
    exact h.2.1
  intro T lo hi z a b m dd d hP
  have hwf := hP.2.2.2.1
  obtain ⟨p1, p2, p3, p4, p5, p6, p7, p8, p9⟩ := hP
  have hxn := hX.1
  rw [RcG_n] at p1
  unfold RcN Rc0 at p1
  rw [if_neg (by omega), if_neg (by omega), if_neg (by omega), if_neg (by omega), if_neg (by omega), if_neg (by omega), if_pos rfl] at p1
  obtain ⟨r1, r2, r3, r4, r5, r6, r7⟩ := p1
  rw [XG_n] at p6
  unfold xgN at p6
  rw [if_neg (by omega), if_neg (by omega), if_neg (by omega), if_neg (by omega), if_neg (by omega), if_neg (by omega), if_pos rfl] at p6
  obtain ⟨g1, g2, g3, g4, g5⟩ := p6
  rw [Wf_n] at p4
  unfold WfN at p4
  rw [if_neg (by decide), if_neg (by omega), if_neg (by omega), if_neg (by omega), if_neg (by omega), if_neg (by omega), if_pos rfl] at p4
  obtain ⟨f1, f2, c, f3, f4⟩ := p4
  have lw := Wf_le2 f3
  have hlen := (Wf_le _ true _ _ f3).2 rfl
  have hi' : i < xn X := by omega
  obtain ⟨d, rfl⟩ : ∃ g, d = g + 3 := ⟨d - 3, by omega⟩
  rw [e_156 (d := d + 2) (by omega) r4, r3]
  simp only [show ¬ (63 : Int32) = (2 : Int32) by decide, show ¬ (63 : Int32) = (5 : Int32) by decide, show ¬ (63 : Int32) = (27 : Int32) by decide, show ¬ (63 : Int32) = (28 : Int32) by decide, show ¬ (63 : Int32) = (29 : Int32) by decide, show ¬ (63 : Int32) = (30 : Int32) by decide, show ¬ (63 : Int32) = (31 : Int32) by decide, show ¬ (63 : Int32) = (32 : Int32) by decide, show ¬ (63 : Int32) = (34 : Int32) by decide, show ¬ (63 : Int32) = (35 : Int32) by decide, show ¬ (63 : Int32) = (58 : Int32) by decide, if_false, if_true]
  have zl : inb (nI lo) 4008 := nin (by omega) (by omega)
  obtain ⟨w1, w2, ⟨n', w3, w3'⟩, ⟨rn', w4, w4', w4''⟩, w5, w6, w7, w8, w9⟩ := p9
  have p9 : WX X T := ⟨w1, w2, ⟨n', w3, w3'⟩, ⟨rn', w4, w4', w4''⟩, w5, w6, w7, w8, w9⟩
  rw [e_Exprs_checkCall _ (d + 1)]
  unfold rb_Exprs_checkCall
  refine wp_bi (R := fun r _ T' => ∃ y, r = nI y ∧ CeQ X T (tD 6 i e ta tb) y T') ?_ (fun r _ T' h => wp_some h)
  rw [gd, if_pos zl, nc (by omega), r4, vK, c_start hX w1 (by omega), bis, gd, if_pos zl, r5, vK, c_name hX w1 hi', bis, c_find (nf := nf) (d := d + 1) (fn := true) (x := 1) (by omega) w3 w3' rfl (by omega), bis]
  have ekw : kwT (tD 6 i e ta tb) = kwT ta + 1 := rfl
  have elv : lvT X (tD 6 i e ta tb) = lvT X ta + 6 := rfl
  have ech : ∀ S : gSt, S.1 7 0 = 0 → chk X (tD 6 i e ta tb) 0 0 S = clC X (chk X ta) ta i e S := fun S h0 => by rw [chk_n, if_pos h0]; rfl
  have fnd : ∀ (R : RgR) (sl : Int32 → Int32) (S : gSt), XR R sl X S T → ff (isIt T true (xN X i)) 0 n' = ff (isFu S (xN X i)) 0 (inn S) := fun R sl S hR => it_findF hR.1.2.2.1 w3 w3'
  have wf0 : ∀ (S0 : gSt), ¬ S0.1 7 0 = 0 → waX X (if S0.1 7 0 = 0 then e else 0) S0 (i + 1) 0 0 = (0, S0) := fun S0 h => by rw [if_neg h]; rfl
  rcases ff_val (p := isIt T true (xN X i)) (i := 0) (k := n') with v | ⟨t, _, t1, _, v⟩
  · rw [v, if_pos rfl, c_note (by omega), bis]
    refine wp_some ⟨1, rfl, tyY_1, FX.nt w2, fun R sl S n hR hm => ?_⟩
    unfold XQ
    rw [ech S hR.h0]
    unfold clC
    dsimp only
    have bf := bf_nt (S := S) (T := T) (p := nI (xP X i)) (a := 3) hR.h0 hR.h53 (by decide)
    rw [← fnd R sl S hR, v, if_neg (show ¬ (0 : Int32) ≤ -1 by decide), wf0 _ bf.1]
    dsimp only
    rw [if_neg bf.1]
    exact Or.inr bf
  have t24 : t < 24 := by omega
  have zt : inb (nI t) 24 := nin t24 (by omega)
  have ct : (nI t).toNatClampNeg = t := nc (by omega)
  have hit : t < itN T := by unfold itN; rw [w3, nc (by omega)]; omega
  obtain ⟨np, j1', j2, j3, j4, j5⟩ := w9 t hit
  have np8 := j1'.2.1
  have p0 : (0 : Int32) ≤ nI t := nI0le (by omega)
  rw [v, if_neg (nI_m1 (by omega)), gd, if_pos zt, ct]
  -- the item on both sides
  have it2 : ∀ (R : RgR) (sl : Int32 → Int32) (S : gSt), XR R sl X S T → T.1 31 t = S.1 15 t ∧ t < inn S ∧ S.1 12 t = 2 := fun R sl S hR => by
    obtain ⟨m', m1, m2, m3, m4⟩ := hR.1.2.2.1
    have em : m' = n' := nI_inj (by omega) (by omega) (by rw [← m2, ← w3])
    have := m4 t (by omega)
    refine ⟨this.2.2.2.1, by omega, ?_⟩
    have fe := fnd R sl S hR
    rw [v] at fe
    rcases ff_val (p := isFu S (xN X i)) (i := 0) (k := inn S) with q | ⟨t', _, _, q1, q⟩
    · rw [q] at fe; exact absurd fe (nI_m1 (by omega))
    · rw [q] at fe
      have : t = t' := nI_inj (by omega) (by omega) fe
      subst this
      unfold isFu at q1
      simp only [Bool.and_eq_true, decide_eq_true_eq] at q1
      exact q1.1
  by_cases c31 : T.1 31 t = nI e
  · rw [if_pos c31, nI_1]
    obtain ⟨gg, T11, a1, a2, a3, a4⟩ := a_rgs (nf := nf) (d := d + 1) (i := i + 1) (cnt := e) hX (by omega) g4 (by omega) w1 w4 w4' w4'' w2 (by omega)
    have f11 := a3.fx
    have x11 := p9.fx f11
    rw [a1, bis, gd, if_pos zl, f11.o (k := 17) (by omega), r6, c_peers (nf := nf) (d := d + 1) hX hnf (r7.fx f11) (by omega) p3 f3 (by omega) (by omega), bis, gd, if_pos zt, f11.o (k := 32) (by omega), j1'.1]
    -- the regions on both sides
    have reg : ∀ (R : RgR) (sl : Int32 → Int32) (S : gSt), XR R sl X S T → BfR (waX X e S (i + 1) 0 0).2 T11 ∨ (T11 = T ∧ ∃ W, waX X e S (i + 1) 0 0 = (nI W, S) ∧ W < 1024 ^ e ∧ gg < 16 ^ e ∧ (∀ k, k < e → R (W / 1024 ^ k % 1024) (gg / 16 ^ k % 16)) ∧ DgR R W gg) := fun R sl S hR => by
      obtain ⟨g', W, T', b1, b2, b3, b4, b5⟩ := b_rgs (nf := nf) (d := d + 1) (i := i + 1) (cnt := e) hX (by omega) g4 (by omega) (fun k hk => hz _ (g5 k hk)) w1 hR.1.2.1 hR.2.2.2.1 w2 hR.h0 hR.h53 (by omega)
      rw [a1] at b1
      simp only [Option.some.injEq, Prod.mk.injEq, true_and] at b1
      obtain ⟨b1a, rfl⟩ := b1
      have eg : gg = g' := nI_inj (by omega) (by omega) b1a
      subst eg
      rcases b5 with ⟨c1, c2, c3, c4, c5, c6, c7⟩ | ⟨bf, _⟩
      · refine Or.inr ⟨c3, W, ?_, c5, c6, c7, rg_dg hR.2.2.2.1 g4 c5 c6 c7⟩
        exact Prod.ext c4 c2
      · exact Or.inl bf
    -- the spec up to here
    have pre : ∀ (R : RgR) (sl : Int32 → Int32) (S : gSt), XR R sl X S T → clC X (chk X ta) ta i e S = (let Wx := waX X e S (i + 1) 0 0; if Wx.2.1 7 0 = 0 then (let D := clD X (chk X ta) ta i e (nI t) Wx.1 Wx.2; if D.2.1 7 0 = 0 then (if 0 ≤ D.2.1 25 t then ((chT 7 D.2 (D.2.1 26 t) Wx.1).1, 0, D.1.2.2.1 ++ [j1 18 (nI t) Wx.1 (chT 7 D.2 (D.2.1 26 t) Wx.1).1 (nI e)], (chT 7 D.2 (D.2.1 26 t) Wx.1).2) else (-1, 0, D.1.2.2.1 ++ [j1 18 (nI t) Wx.1 (-1) (nI e)], D.2)) else erR D.2) else erR Wx.2) := fun R sl S hR => by
      have q15 : S.1 15 t = nI e := by rw [← (it2 R sl S hR).1]; exact c31
      unfold clC
      dsimp only
      rw [← fnd R sl S hR, v, if_pos p0, ct, if_pos q15, if_pos hR.h0]
    have ql : (nI (lenT ta) = nI np) = (lenT ta = np) := ci_eq (by omega) (by omega)
    by_cases cl : lenT ta = np
    · rw [if_pos (ql.mpr cl), gd, if_pos zl, f11.o (k := 17) (by omega), r6, e_Exprs_checkParts]
      unfold rb_Exprs_checkParts
      show wp (bi (rl_Exprs_checkParts_6 (PP nf d) nf nf T11 (nI t) (nI gg) (nI dd) (if isZ ta = true then 0 else nI (lo + 1)) (nI 0)) _) _
      refine wp_bi (y_args (nf := nf) (d := d) (dd := dd) (N := ndT ta) (np := np) hX hnf (fun t' ht' => hI t' (by rw [ndT_n]; omega)) t24 a2 np8 ta T11 (lo + 1) hi _ c (m - 1) 0 nf (Nat.le_refl _) (r7.fx f11) (by omega) p3 f3 (by omega) g3 (g2.imp id (fun w => by omega)) (g2.imp id (fun w => by omega)) x11 (by unfold itN at hit ⊢; rw [f11.o (by omega)]; exact hit) (by rw [f11.o (by omega)]; exact j1'.1) (by omega) (by omega)) ?_
      intro _ _ T17 ⟨f17, hAg⟩
      simp only [Nat.add_zero] at hAg
      have x17 := x11.fx f17
      have f117 := f11.tr f17
      have it17 : t < itN T17 := by unfold itN at hit ⊢; rw [f117.o (by omega)]; exact hit
      refine y_ddl (nf := nf) (d := d + 1) hX t24 a2 (by omega) g4 (by omega) e 1 nf T17 (by omega) (by omega) (by omega) x17 ?_
      intro T18 f18 hDd
      refine wp_mono (y_clt (nf := nf) (d := d + 1) hX hnf t24 (by unfold itN at it17 ⊢; rw [f18.o (by omega)]; exact it17) a2 (by omega) (x17.fx f18) (by omega)) ?_
      intro rr _ T' ⟨y, e1, y2, f19, hCl⟩
      refine ⟨y, e1, y2, (f117.tr f18).tr f19, fun R sl S n hR hm => ?_⟩
      obtain ⟨o1, o2, o3, o4⟩ := hm
      have ck := ck_of hX hwf p5 hR.2.1 o4
      unfold XQ
      rw [ekw] at o2 ⊢
      rw [elv] at o3 ⊢
      rw [ech S hR.h0, pre R sl S hR] at o4 ck ⊢
      obtain ⟨i1, i2, i3⟩ := it2 R sl S hR
      rcases reg R sl S hR with bf | ⟨eT, W, s1, s2, s3, s4, s5⟩
      · dsimp only
        rw [if_neg bf.1]
        exact Or.inr (bf.fx ((f17.tr f18).tr f19))
      subst eT
      rw [s1] at o4 ck ⊢
      dsimp only at o4 ck ⊢
      rw [if_pos hR.h0] at o4 ck ⊢
      obtain ⟨c', np', q1, q2, q3, q4, q5, _, q7⟩ := (hR.2.2.2.2.2.2.2.2.1 t i2).fl (nm := 0) hX
      have enp : np' = np := nI_inj (by omega) (by omega) (by rw [← q1.1, ← j1'.1])
      subst enp
      have q19 : nI (lenT ta) = S.1 19 t := by rw [q4, cl]
      have ag := ag_it (t := ta) hR.2.1 i2 q19 (by omega) (s5.pk hR.2.2.2.2.1)
      rw [q2, nc (by omega)] at ag
      unfold clD at o4 ck ⊢
      dsimp only at o4 ck ⊢
      rw [ct, if_pos q19] at o4 ck ⊢
      simp only [if_pos hR.h0, q2, nc (show c' < 100000 by omega)] at o4 ck ⊢
      have fA : FE S (chk X ta c' (nI W) S).2.2.2 := chk_fe ta _ _ _
      have gA := fA.tg hR.2.1.1
      have fD : FE (chk X ta c' (nI W) S).2.2.2 (cddS X (nI t) (nI W) (i + 1) e 0 (chk X ta c' (nI W) S).2.2.2) := FE.cd _ _ _
      have fW : FE (cddS X (nI t) (nI W) (i + 1) e 0 (chk X ta c' (nI W) S).2.2.2) (cwhS X (nI t) (nI W) (i + 1) ((chk X ta c' (nI W) S).2.2.2.1 31 t).toNatClampNeg 0 (cddS X (nI t) (nI W) (i + 1) e 0 (chk X ta c' (nI W) S).2.2.2)) := FE.cw _ _ _
      have nD : cn (cwhS X (nI t) (nI W) (i + 1) ((chk X ta c' (nI W) S).2.2.2.1 31 t).toNatClampNeg 0 (cddS X (nI t) (nI W) (i + 1) e 0 (chk X ta c' (nI W) S).2.2.2)) < 6000 := by
        split at o4
        · split at o4
          · exact (FE.ch _ _ _ : FE (cwhS X (nI t) (nI W) (i + 1) ((chk X ta c' (nI W) S).2.2.2.1 31 t).toNatClampNeg 0 (cddS X (nI t) (nI W) (i + 1) e 0 (chk X ta c' (nI W) S).2.2.2)) _).lt (fW.tg (fD.tg gA)) o4
          · exact o4
        · exact o4
      have nA := (fD.tr fW).lt gA nD
      rcases hAg R sl S n W c' hR s5 q2 i2 o1 (by omega) (by omega) nA ag with ⟨a1', b2, b3, b4, b5, b6, b7⟩ | bf
      · obtain ⟨w', y', k1', k2', k3', k4', k5', k6', k7', k8', k9'⟩ := (a1'.2.2.2.2.2.2.2.2.1 t (by rw [fA.einn]; exact i2)).fn (by rw [fA.1 12 (by omega)]; exact i3)
        rcases hDd R sl _ W a1' s5 k5' with bf | ⟨eT, ec⟩
        · rw [cwh_bad _ _ bf.1, if_neg bf.1]
          exact Or.inr (bf.fx f19)
        · subst eT
          rw [show (1 : Nat) - 1 = 0 from rfl] at ec
          rw [ec] at o4 ck nD ⊢
          rcases hCl R sl _ (n + (ksE (chk X ta c' (nI W) S).2.2.1).length) W a1' s5 (by rw [fA.einn]; exact i2) (by rw [fA.1 12 (by omega)]; exact i3) b3 (by omega) (by omega) with bf | ⟨ec2, hfin⟩
          · rw [if_neg bf.1]
            exact Or.inr bf
          · rw [ec2, if_pos a1'.h0] at o4 ck ⊢
            have fin : ∀ (hcn : cn (chT 7 (chk X ta c' (nI W) S).2.2.2 ((chk X ta c' (nI W) S).2.2.2.1 26 t) (nI W)).2 < 6000) (hck : Ck (chT 7 (chk X ta c' (nI W) S).2.2.2 ((chk X ta c' (nI W) S).2.2.2.1 26 t) (nI W)).2), XOk R sl X S T11 ((chT 7 (chk X ta c' (nI W) S).2.2.2 ((chk X ta c' (nI W) S).2.2.2.1 26 t) (nI W)).1, 0, (chk X ta c' (nI W) S).2.2.1 ++ [j1 18 (nI t) (nI W) (chT 7 (chk X ta c' (nI W) S).2.2.2 ((chk X ta c' (nI W) S).2.2.2.1 26 t) (nI W)).1 (nI e)], (chT 7 (chk X ta c' (nI W) S).2.2.2 ((chk X ta c' (nI W) S).2.2.2.1 26 t) (nI W)).2) (kwT ta + 1) (lvT X ta + 6) n y T' := by
              intro hcn hck
              obtain ⟨v1, v2, v3, v4, v5, v6⟩ := hfin hcn hck
              exact XOk.ap1 (kw1 := kwT ta) b2 b3 b4 b5 b6 (by omega) f19 (FE.ch _ _ _) v1 v2 ⟨5, v3⟩ v4 (KrO_18 g4 s2 s3 s4 v5) (by show ¬ (18 : Int32) = 7; decide) (by omega) (by omega)
            by_cases c25 : 0 ≤ (chk X ta c' (nI W) S).2.2.2.1 25 t
            · rw [if_pos c25] at o4 ck ⊢
              exact fin o4 ck
            · rw [if_neg c25] at o4 ck ⊢
              have l25 : (chk X ta c' (nI W) S).2.2.2.1 25 t < 0 := by
                rw [Int32.lt_iff_toInt_lt]
                rw [Int32.le_iff_toInt_le] at c25
                have e0 : (0 : Int32).toInt = 0 := by decide
                omega
              have e26 := k9' l25
              have fin' := fin
              rw [e26, ch_m1] at fin'
              exact fin' o4 ck
      · rw [cdd_bad _ _ bf.1, cwh_bad _ _ bf.1, if_neg bf.1]
        exact Or.inr (bf.fx (f18.tr f19))
    · rw [if_neg (fun w => cl (ql.mp w)), c_note (by omega), bis]
      refine wp_some ⟨1, rfl, tyY_1, f11.tr (FX.nt f11.2.2.1), fun R sl S n hR hm => ?_⟩
      unfold XQ
      rw [ech S hR.h0, pre R sl S hR]
      obtain ⟨i1, i2, i3⟩ := it2 R sl S hR
      rcases reg R sl S hR with bf | ⟨eT, W, s1, s2, s3, s4, s5⟩
      · dsimp only
        rw [if_neg bf.1]
        exact Or.inr (bf.fx (FX.nt f11.2.2.1))
      · subst eT
        rw [s1]
        dsimp only
        rw [if_pos hR.h0]
        obtain ⟨c', np', q1, q2, q3, q4, q5, _, q7⟩ := (hR.2.2.2.2.2.2.2.2.1 t i2).fl (nm := 0) hX
        have enp : np' = np := nI_inj (by omega) (by omega) (by rw [← q1.1, ← j1'.1])
        subst enp
        have bf := bf_nt (S := S) (T := T11) (p := nI (xP X i)) (a := 7) hR.h0 hR.h53 (by decide)
        unfold clD
        dsimp only
        rw [ct, if_neg (show ¬ nI (lenT ta) = S.1 19 t from fun w => cl (by rw [q4] at w; exact ql.mp w))]
        simp only [if_neg bf.1]
        dsimp only [erR]
        simp only [cdd_bad _ _ bf.1, cwh_bad _ _ bf.1, if_neg bf.1]
        exact Or.inr bf
  · rw [if_neg c31, c_note (by omega), bis]
    refine wp_some ⟨1, rfl, tyY_1, FX.nt w2, fun R sl S n hR hm => ?_⟩
    unfold XQ
    rw [ech S hR.h0]
    have q15 : ¬ S.1 15 t = nI e := by rw [← (it2 R sl S hR).1]; exact c31
    have bf := bf_nt (S := S) (T := T) (p := nI (xP X i)) (a := 7) hR.h0 hR.h53 (by decide)
    unfold clC
    dsimp only
    rw [← fnd R sl S hR, v, if_pos p0, ct, if_neg q15, wf0 _ bf.1]
    dsimp only
    rw [if_neg bf.1]
    exact Or.inr bf
end CYS
