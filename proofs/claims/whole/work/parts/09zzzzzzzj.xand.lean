/-! & -/
def ndT : Tr → Nat
  | .add (.add (.var _) (.add (.var _) (.var _))) (.add a b) => ndT a + ndT b + 1
  | _ => 0
section CYJ
variable {R : RgR} {S S' S0 S1 S2 T T' T1 T2 : gSt} {X : Lx} {nf d i k n m t e w c a b q g f h r s y z lo hi dd mb y1 y2 kd kw kw1 lv lv1 st u : Nat} {x v x' pl u1 u2 u3 op : Int32} {sl : Int32 → Int32} {ta tb tr : Tr}
theorem ndT_n : ndT (tD k i e ta tb) = ndT ta + ndT tb + 1 := rfl
theorem nd_br (tr : Tr) : ndT (brT tr) ≤ ndT tr := by
  induction tr using Tr_ind with
  | hz t hz =>
    unfold brT
    split
    · exact absurd rfl (hz _ _ _ _ _)
    · exact Nat.le_refl _
  | h k i e ta tb ihA ihB =>
    rw [brT_n]
    split
    · rw [ndT_n]; omega
    · exact Nat.le_refl _
theorem Wf_fs (tr : Tr) : ∀ (a b : Nat), Wf X tr false a b → ∃ b', Wf X (fsT tr) false a b' ∧ b' ≤ b := by
  induction tr using Tr_ind with
  | hz t hz =>
    intro a b h
    refine ⟨b, ?_, Nat.le_refl _⟩
    unfold fsT
    split
    · exact absurd rfl (hz _ _ _ _ _)
    · exact h
  | h k i e ta tb ihA ihB =>
    intro a b h
    rw [fsT_n]
    by_cases c5 : k = 5
    · subst c5
      rw [if_pos rfl]
      rw [Wf_n] at h
      unfold WfN at h
      rw [if_neg (by decide), if_neg (by omega), if_neg (by omega), if_neg (by omega), if_neg (by omega), if_pos rfl] at h
      obtain ⟨b', h1, h2⟩ := ihA _ _ h.1
      have := (Wf_le _ false _ _ h.2).1 rfl
      exact ⟨b', h1, by omega⟩
    · rw [if_neg c5]
      exact ⟨b, h, Nat.le_refl _⟩
theorem tk_no (h3 : ¬ k = 3) (h4 : ¬ k = 4) (h2 : ¬ k = 2) : ¬ (tkd X (tD k i e ta tb) = 14 ∨ tkd X (tD k i e ta tb) = 15) := by
  have e : tkd X (tD k i e ta tb) = if k = 2 then tkd X ta else if k = 1 then (if xK X i = 5 then 0 else if xK X i = 27 then 1 else if xK X i = 34 then 2 else if xK X i = 35 then 3 else 4) else if k = 3 then (if xK X i = 49 then 14 else if xK X i = 61 then 16 else 17) else if k = 4 then 15 else if k = 5 then 13 else if k = 6 then 5 else if k = 7 then (if xK X (i + 3 + e) = 49 then 7 else 6) else if k = 8 then (if xK X i = 29 then 8 else if xK X i = 30 then 9 else if xK X i = 31 then 11 else 12) else if k = 9 then 10 else 30 := rfl
  rw [e, if_neg h2, if_neg h3, if_neg h4]
  repeat' split
  all_goals omega
theorem e_and (hX : XO X) (hnf : 16385 ≤ nf) (hI : ∀ t, ndT t < ndT (tD 9 i e ta tb) → CE0 nf X t ∧ CE1 nf X t) : CE0 nf X (tD 9 i e ta tb) := by
  refine e_prim hX hnf rfl (fun T lo hi z h => ?_) ?_
  · rw [RcG_n] at h
    unfold RcN Rc0 at h
    rw [if_neg (by omega), if_neg (by omega), if_neg (by omega), if_neg (by omega), if_neg (by omega), if_neg (by omega), if_neg (by omega), if_neg (by omega), if_neg (by omega), if_pos rfl] at h
    exact h.2.1
  intro T lo hi z a b m dd d hP
  have hwf := hP.2.2.2.1
  obtain ⟨p1, p2, p3, p4, p5, p6, p7, p8, p9⟩ := hP
  have hxn := hX.1
  rw [RcG_n] at p1
  unfold RcN Rc0 at p1
  rw [if_neg (by omega), if_neg (by omega), if_neg (by omega), if_neg (by omega), if_neg (by omega), if_neg (by omega), if_neg (by omega), if_neg (by omega), if_neg (by omega), if_pos rfl] at p1
  obtain ⟨r1, r2, r3, r4, r5, r6, z0, r7, r8⟩ := p1
  rw [XG_n] at p6
  unfold xgN at p6
  rw [if_neg (by omega), if_neg (by omega), if_neg (by omega), if_neg (by omega), if_neg (by omega), if_neg (by omega), if_neg (by omega), if_neg (by omega), if_neg (by omega)] at p6
  obtain ⟨_, g1, g2, g3⟩ := p6
  rw [Wf_n] at p4
  unfold WfN at p4
  rw [if_neg (by decide), if_neg (by omega), if_neg (by omega), if_neg (by omega), if_neg (by omega), if_neg (by omega), if_neg (by omega), if_neg (by omega), if_neg (by omega), if_pos rfl] at p4
  obtain ⟨f1, f2⟩ := p4
  obtain ⟨b1, ⟨a', b', b2, b2'⟩, b3, b4, b5, b6, b7, k', i', e', ta', tb', b8, b9⟩ := br_all ta (m - 1) 0 _ _ (by omega) g3 f2
  have bsz := nd_br ta
  have bsz2 : ndT ta < ndT (tD 9 i e ta tb) := by rw [ndT_n]; omega
  -- the operand as an EXPR
  have hcx : cRX T (RcG X T ta) (lo + 1) hi := by
    refine ⟨lo + 1, ?_, r6⟩
    revert r7 g3
    induction ta using Tr_ind with
    | hz t hz =>
      intro h _
      unfold RcG at h
      split at h
      · exact absurd rfl (hz _ _ _ _ _)
      · omega
      · exact h.elim
    | h k i e ta tb _ _ =>
      intro h hg
      rw [RcG_n] at h ⊢
      unfold RcN at h ⊢
      rw [if_neg (by omega), if_neg (by omega)] at h
      rw [if_neg (by omega), if_pos rfl]
      have c5 : ¬ k = 5 := fun w => by
        subst w
        rw [XG_n] at hg
        unfold xgN at hg
        rw [if_neg (by omega), if_neg (by omega), if_neg (by omega), if_neg (by omega), if_neg (by omega), if_pos rfl] at hg
        omega
      rw [if_neg c5]
      exact ⟨rfl, z0, h, r8⟩
  obtain ⟨d, rfl⟩ : ∃ g, d = g + 3 := ⟨d - 3, by omega⟩
  rw [e_156 (d := d + 2) (by omega) r4, r3]
  simp only [show ¬ (58 : Int32) = (2 : Int32) by decide, show ¬ (58 : Int32) = (5 : Int32) by decide, show ¬ (58 : Int32) = (27 : Int32) by decide, show ¬ (58 : Int32) = (28 : Int32) by decide, show ¬ (58 : Int32) = (29 : Int32) by decide, show ¬ (58 : Int32) = (30 : Int32) by decide, show ¬ (58 : Int32) = (31 : Int32) by decide, show ¬ (58 : Int32) = (32 : Int32) by decide, show ¬ (58 : Int32) = (34 : Int32) by decide, show ¬ (58 : Int32) = (35 : Int32) by decide, if_false, if_true]
  have zl : inb (nI lo) 4008 := nin (by omega) (by omega)
  rw [e_Exprs_checkAddress _ (d + 1)]
  unfold rb_Exprs_checkAddress
  obtain ⟨lo', l1, l2, l3, l4⟩ := c_bare (nf := nf) (d := d + 1) hX hnf hcx (by omega) p3 g3.s1 (by omega) (by omega)
  have zl' : inb (nI lo') 4008 := nin (by omega) (by omega)
  have l4' := l4
  obtain ⟨yb, l5, l6⟩ := l4
  obtain ⟨o1, hh1, z1, o2, o3, o4⟩ := Rc_13 _ lo' hi yb (by omega) l5
  obtain ⟨bf, w1, w2⟩ := Wf_fs _ _ _ b2
  have le1 := (Rc_le _ 0 _ _ _ (by omega) o2).1 rfl
  have zz1 : inb (nI z1) 4008 := nin (by omega) (by omega)
  rw [gd, if_pos zl, nc (by omega), r5, l3, bis, x_begin (nf := nf) (d := d + 1) hX hnf p9.1 l5 p3 b1 (by omega) b2 (by omega) (by omega), bis, c_lastT (nf := nf) (d := d + 1) hX hnf (by omega) (by omega) o2 o4 w1 (by omega) (by omega), bis, gd, if_pos zl', nc (by omega)]
  refine wp_bi (R := fun r _ T' => ∃ y, r = nI y ∧ CeQ X T (tD 9 i e ta tb) y T') ?_ (fun r _ T' h => wp_some h)
  have epl : plT X (brT ta) = plT X ta := by unfold plT; rw [b5]
  have ech : ∀ S : gSt, S.1 7 0 = 0 → chk X (tD 9 i e ta tb) 0 0 S = anC X (chk X ta) ta S := fun S h0 => by
    rw [chk_n, if_pos h0]
    rfl
  -- no place
  have bad : ¬ (tkd X ta = 14 ∨ tkd X ta = 15) → wp (bi (PP nf (d + 1) 47 T [(4 : Int32), plT X (brT ta)] []) fun _ _ T13 => some ((1 : Int32), (0 : Int64), T13)) (fun r _ T' => ∃ y, r = nI y ∧ CeQ X T (tD 9 i e ta tb) y T') := by
    intro hk
    rw [c_note (by omega), bis]
    refine wp_some ⟨1, rfl, tyY_1, FX.nt p9.2.1, fun R sl S n hR hm => ?_⟩
    unfold XQ
    rw [ech S hR.h0]
    unfold anC
    rw [if_neg hk, epl]
    exact Or.inr (bf_nt (a := 4) hR.h0 hR.h53 (by decide))
  by_cases c5 : k' = 5
  · have h13 : ¬ T.1 13 lo' = 0 := by
      rcases o1 with ⟨w, _⟩ | ⟨_, w, v1, v2, v3⟩
      · rw [b8, opN_n, if_pos c5] at w; omega
      · rw [v3]
        exact fun v => by have := nI_inj (a := w) (b := 0) (by omega) (by omega) v; omega
    rw [if_neg h13]
    refine bad ?_
    rw [b4, b8]
    exact tk_no (by omega) (by omega) b9
  have op0 : yb = lo' := by
    rcases o1 with ⟨_, w⟩ | ⟨w, _⟩
    · exact w
    · rw [b8, opN_n, if_neg c5] at w; omega
  rw [op0] at l6
  rw [if_pos l6, gd, if_pos zz1, nc (by omega)]
  have efs : fsT (brT ta) = tD k' i' e' ta' tb' := by rw [b8, fsT_n, if_neg c5]
  rw [efs] at o2
  rw [b8] at b1 b2 b4
  -- the make of the pointer
  have make : ∀ y1 y2 T2, (k' = 3 ∧ xK X i' = 49 ∨ k' = 4) → PlP X T (tD k' i' e' ta' tb') 1 y1 y2 T2 → wp (bi (PP nf (d + 1) 92 T2 [nI y1] []) fun r17 _ T17 => bi (PP nf (d + 1) 88 T17 [(3 : Int32), r17, nI y2] []) fun r18 _ T18 => some (r18, (0 : Int64), T18)) (fun r _ T' => ∃ y, r = nI y ∧ CeQ X T (tD 9 i e ta tb) y T') := by
    intro y1 y2 T2 hkk ⟨q1, q2, q3, q4⟩
    have yl1 := q1.lt
    have rl : rkC T2 y1 < 16 := Nat.mod_lt _ (by omega)
    rw [c_regionOf (by omega) (by omega), bis]
    obtain ⟨zt, T3, s1, s2, s3, s4⟩ := ptr_ab (nf := nf) (d := d + 1) (T := T2) (y := y2) (r := rkC T2 y1) (kd := 1) hnf q3.2.2.1 q2 rl (by omega) (by omega) (by omega)
    rw [show PP nf (d + 1) 88 T2 [(3 : Int32), nI (rkC T2 y1), nI y2] [] = _ from s1, bis]
    refine wp_some ⟨zt, rfl, s2, q3.tr s3.fx, fun R sl S n hR hm => ?_⟩
    obtain ⟨m1, m2, m3, m4⟩ := hm
    have ck := ck_of hX hwf p5 hR.2.1 m4
    have ekw : kwT (tD 9 i e ta tb) = kwT (tD k' i' e' ta' tb') := by rw [← b8, ← b6]; rfl
    have elv : lvT X (tD 9 i e ta tb) = lvT X (tD k' i' e' ta' tb') + lvT X tb + 1 := by rw [← b8, ← b7]; rfl
    unfold XQ
    rw [ekw] at m2 ⊢
    rw [elv] at m3 ⊢
    rw [ech S hR.h0] at m4 ck ⊢
    unfold anC at m4 ck ⊢
    have tk14 : tkd X ta = 14 ∨ tkd X ta = 15 := by
      rw [b4]
      rcases hkk with ⟨v, v2⟩ | v
      · subst v
        left
        show (if xK X i' = 49 then 14 else if xK X i' = 61 then 16 else 17) = 14
        rw [if_pos v2]
      · subst v
        exact Or.inr rfl
    rw [if_pos tk14, b3 S, b8] at m4 ck ⊢
    dsimp only at m4 ck ⊢
    have fe1 : FE S (chk X (tD k' i' e' ta' tb') 0 0 S).2.2.2 := chk_fe _ 0 0 S
    have tg1 := fe1.tg hR.2.1.1
    have cA : cn (chk X (tD k' i' e' ta' tb') 0 0 S).2.2.2 < 6000 := by
      split at m4
      · split at m4
        · exact (FE.fl (by decide) : FE (chk X (tD k' i' e' ta' tb') 0 0 S).2.2.2 _).lt tg1 m4
        · exact (FE.kn : FE (chk X (tD k' i' e' ta' tb') 0 0 S).2.2.2 _).lt tg1 m4
      · exact m4
    rcases q4 R sl S n hR ⟨m1, by omega, by omega, cA⟩ with q | ⟨h0, un, hun, q⟩
    · rw [if_neg q.1]
      exact Or.inr (q.fx s3.fx)
    · rw [if_pos h0] at m4 ck ⊢
      rw [← b4] at hun
      by_cases cu : un = true
      · rw [if_pos (hun.mp cu), ← epl, b8]
        have ep : plE 1 un (plT X (tD k' i' e' ta' tb')) (chk X (tD k' i' e' ta' tb') 0 0 S).2.2.2 = flT (chk X (tD k' i' e' ta' tb') 0 0 S).2.2.2 4 (plT X (tD k' i' e' ta' tb')) := by
          unfold plE
          rw [if_pos cu, if_pos rfl]
        rw [ep] at q
        rcases q with q | ⟨v1, _⟩
        · exact Or.inr (q.fx s3.fx)
        · exact absurd v1.h0 (flT_bad (by decide))
      · have nu : ¬ (tkd X ta = 14 ∧ (chk X (tD k' i' e' ta' tb') 0 0 S).2.2.2.1 12 (tf (chk X (tD k' i' e' ta' tb') 0 0 S).2.2.2 69 (chk X (tD k' i' e' ta' tb') 0 0 S).2.1).toNatClampNeg = 1) := fun w => cu (hun.mpr w)
        rw [if_neg nu] at m4 ck ⊢
        have ep : plE 1 un (plT X (tD k' i' e' ta' tb')) (chk X (tD k' i' e' ta' tb') 0 0 S).2.2.2 = (chk X (tD k' i' e' ta' tb') 0 0 S).2.2.2 := by
          unfold plE
          rw [if_neg cu]
        rw [ep] at q
        rcases q with q | ⟨v1, v2, ⟨h2, v3⟩, ⟨h1, v4⟩, ⟨js, l, v5, v6, v7, v8, v9, v10⟩, v11, v12⟩
        · exact absurd h0 q.1
        · -- what holds it is a pointer or a row
          have iv := (chk_inv (tD k' i' e' ta' tb') false a' b' 0 0 S ⟨b2, by omega⟩ hR.2.1 (fun w => by cases w) cA).2 h0 rfl
          obtain ⟨p, x1, x2, x3, _⟩ := iv.2 (by rw [← b4]; exact tk14)
          rcases v4.rd with ⟨e1, _⟩ | ⟨e1, _⟩ | ⟨e1, _⟩ | ⟨p', kd', r', n', bb, gg, _, e1, e2, e3, e4, ec, e5, e6, e7, e8, e9, e9', e9'', e10, e11, e12, e13, e14, e15⟩
          · rw [x1] at e1
            exact absurd (nI_inj (b := 0) (by omega) (by omega) e1) (by omega)
          · rw [x1] at e1
            exact absurd e1 (nI_m1 (by omega))
          · rw [x1] at e1
            have := nIpos x2 (show p < 100000 by omega)
            rw [e1] at this
            exact absurd this (by decide)
          · have e67 : tf (chk X (tD k' i' e' ta' tb') 0 0 S).2.2.2 67 (chk X (tD k' i' e' ta' tb') 0 0 S).2.1 = nI r' := by
              unfold tf
              rw [e1, nc (by omega)]
              exact e9'
            rw [e67] at m4 ck ⊢
            rw [← e13] at e10
            obtain ⟨t1, t2, t3⟩ := s4 R _ (chk X (tD k' i' e' ta' tb') 0 0 S).1 h2 r' v3 v1.2.1.1 e10 e9'' (by omega) m4
            have fx3 : FX T2 T3 := s3.fx
            have row : cw3 T3 (n + (ksE js).length) = cw3 T2 (n + (ksE js).length) := by
              unfold cw3
              rw [s3.1]
            -- the last instruction
            have last : ¬ l.1 = 7 ∧ KrO R sl (knS (chk X (tD k' i' e' ta' tb') 0 0 S).2.2.2 (nI 1, nI r', (chk X (tD k' i' e' ta' tb') 0 0 S).1, -1, 0)) T3 (ajj l (j1 7 (chk X (tD k' i' e' ta' tb') 0 0 S).2.1 (chk X (tD k' i' e' ta' tb') 0 0 S).1 (knR (chk X (tD k' i' e' ta' tb') 0 0 S).2.2.2 (nI 1, nI r', (chk X (tD k' i' e' ta' tb') 0 0 S).1, -1, 0)) 0)) (n + (ksE js).length) := by
              have fm : ∀ (js0 : List T5) (l0 : T5), (chk X (tD k' i' e' ta' tb') 0 0 S).2.2.1 = js0 ++ [l0] → l = l0 := fun js0 l0 h => by
                rw [v5] at h
                have := List.append_inj_right' h rfl
                exact (List.cons.inj this).1
              rcases hkk with ⟨w, w'⟩ | w
              · subst w
                have e1c : chk X (tD 3 i' e' ta' tb') 0 0 S = tlC X (chk X ta') ta' i' S := by rw [chk_n, if_pos hR.h0]; rfl
                have hA0 : (chk X ta' 0 0 S).2.2.2.1 7 0 = 0 := by
                  refine Decidable.byContradiction fun hh => ?_
                  rw [e1c] at h0
                  unfold tlC at h0
                  dsimp only at h0
                  rw [if_neg hh] at h0
                  exact hh h0
                have el := fm _ _ (by rw [e1c]; unfold tlC; dsimp only; rw [if_pos hA0])
                rw [if_pos w'] at el
                have l6 : l.1 = 6 := by rw [el]; rfl
                refine ⟨by rw [l6]; decide, ?_⟩
                unfold ajj
                rw [if_neg (by rw [l6]; decide)]
                rcases v10 with ⟨_, t, q, c, g1, g2, g3, g4, g5, g6⟩ | ⟨g1, _⟩ | ⟨g1, _⟩
                · have eh : l.2.2.1 = (chk X (tD 3 i' e' ta' tb') 0 0 S).2.1 := by
                    rw [el, e1c]; unfold tlC; dsimp only; rw [if_pos hA0]; rfl
                  have et : l.2.2.2.1 = (chk X (tD 3 i' e' ta' tb') 0 0 S).1 := by
                    rw [el, e1c]; unfold tlC; dsimp only; rw [if_pos hA0]; rfl
                  rw [eh] at g1
                  rw [et] at g4
                  refine KrO_7 (t := t) (cc := c) (g1.mo t2) (g4.mo t2) ?_
                  rw [row, g6, g2, nc (by omega)]
                  unfold rwF
                  rw [if_neg cu, if_neg (by decide), if_pos rfl, s3.1]
                · rw [l6] at g1; exact absurd g1 (by decide)
                · rw [l6] at g1; exact absurd g1 (by decide)
              · subst w
                have e1c : chk X (tD 4 i' e' ta' tb') 0 0 S = exC X (chk X ta') (chk X tb') ta' tb' S := by rw [chk_n, if_pos hR.h0]; rfl
                have hA0 : (chk X ta' 0 0 S).2.2.2.1 7 0 = 0 := by
                  refine Decidable.byContradiction fun hh => ?_
                  rw [e1c] at h0
                  unfold exC at h0
                  dsimp only at h0
                  rw [if_neg hh] at h0
                  exact hh h0
                have hB0 : (chk X tb' 0 0 (chk X ta' 0 0 S).2.2.2).2.2.2.1 7 0 = 0 := by
                  refine Decidable.byContradiction fun hh => ?_
                  rw [e1c] at h0
                  unfold exC at h0
                  dsimp only at h0
                  rw [if_pos hA0, if_neg hh] at h0
                  exact hh h0
                have el := fm _ _ (by rw [e1c]; unfold exC; dsimp only; rw [if_pos hA0, if_pos hB0])
                have l8 : l.1 = 8 := by rw [el]; rfl
                refine ⟨by rw [l8]; decide, ?_⟩
                unfold ajj
                rw [if_pos l8]
                rcases v10 with ⟨g1, _⟩ | ⟨_, c, g2, g3⟩ | ⟨g1, _⟩
                · rw [l8] at g1; exact absurd g1 (by decide)
                · have et : l.2.2.1 = (chk X (tD 4 i' e' ta' tb') 0 0 S).1 := by
                    rw [el, e1c]; unfold exC; dsimp only; rw [if_pos hA0, if_pos hB0]; rfl
                  rw [et] at g2
                  refine KrO_9 (cc := c) (g2.mo t2) ?_
                  rw [row, g3, if_pos rfl]
                · rw [l8] at g1; exact absurd g1 (by decide)
            rw [v5]
            have ek := ksE_7 (js := js) (l := l) (j := j1 7 (chk X (tD k' i' e' ta' tb') 0 0 S).2.1 (chk X (tD k' i' e' ta' tb') 0 0 S).1 (knR (chk X (tD k' i' e' ta' tb') 0 0 S).2.2.2 (1, nI r', (chk X (tD k' i' e' ta' tb') 0 0 S).1, -1, 0)) 0) rfl last.1
            refine Or.inl ⟨v1.kn s3 t2 ck, v2.tr t2, ⟨_, t1⟩, ?_, ?_, ?_, v6.s rfl last.1, by omega⟩
            · show T3.1 51 0 = nI (n + (ksE (js ++ [l] ++ [j1 7 _ _ _ 0])).length)
              rw [ek, List.length_append, s3.1]
              exact v7
            · show KrL R sl _ T3 (ksE (js ++ [l] ++ [j1 7 _ _ _ 0])) n
              rw [ek]
              refine KrL.ap _ _ _ ?_ ⟨last.2, trivial⟩
              exact KrL.mo t2 (by rw [knS_o (by omega)]) (fun k _ _ => by rw [s3.1]) _ _ (fun g q _ _ _ => by rw [s3.1]) v8
            · show (ksE (js ++ [l] ++ [j1 7 _ _ _ 0])).length ≤ _
              rw [ek, List.length_append]
              exact v9
  have hP' : CeP X T (tD k' i' e' ta' tb') 0 lo' hh1 z1 (m - 1) (dd + 1) d a' b' := by
    refine ⟨o2, by omega, by omega, b2, by omega, ?_, by omega, by omega, p9⟩
    rw [XG_n] at b1 ⊢
    unfold xgN at b1 ⊢
    rw [if_neg (by omega)] at b1 ⊢
    simp only [c5, if_false] at b1 ⊢
    exact b1
  have sz' : ndT ta' < ndT (tD 9 i e ta tb) ∧ ndT tb' < ndT (tD 9 i e ta tb) := by
    rw [b8, ndT_n] at bsz
    omega
  have xl := (hX.2 i').2
  have kd11 : ¬ k' = 3 → ¬ k' = 4 → z1 = 0 := fun h3 h4 => by
    have o2' := o2
    rw [RcG_n] at o2'
    unfold RcN at o2'
    rw [if_neg (by omega), if_neg (by omega)] at o2'
    unfold Rc0 at o2'
    by_cases c1 : k' = 1
    · rw [if_pos c1] at o2'; exact o2'.2.1
    rw [if_neg c1, if_neg b9, if_neg h3, if_neg h4] at o2'
    by_cases c6 : k' = 6
    · rw [if_pos c6] at o2'; exact o2'.2.1
    rw [if_neg c6] at o2'
    by_cases c7 : k' = 7
    · rw [if_pos c7] at o2'; exact o2'.2.1
    rw [if_neg c7] at o2'
    by_cases c8 : k' = 8
    · rw [if_pos c8] at o2'; exact o2'.2.1
    rw [if_neg c8] at o2'
    by_cases c9 : k' = 9
    · rw [if_pos c9] at o2'; exact o2'.2.1
    rw [if_neg c9] at o2'
    exact o2'.elim
  by_cases c3 : k' = 3
  · subst c3
    have k11 : T.1 11 z1 = nI (xK X i') := by
      have o2' := o2
      rw [RcG_n] at o2'
      unfold RcN Rc0 at o2'
      rw [if_neg (by omega), if_neg (by omega), if_neg (by omega), if_neg (by omega), if_pos rfl] at o2'
      exact o2'.2.2.2.1
    rw [k11]
    have q49 : (nI (xK X i') = (49 : Int32)) = (xK X i' = 49) := ci_eq (j := 49) (by omega) (by omega)
    have q44 : (nI (xK X i') = (44 : Int32)) = (xK X i' = 44) := ci_eq (j := 44) (by omega) (by omega)
    by_cases c49 : xK X i' = 49
    · rw [if_pos (q49.mpr c49), b8]
      unfold rj_Exprs_checkAddress_91
      rw [nI_1]
      exact y_pl3 (d := d) (u := 1) hX hnf (hI _ sz'.1).1 (Or.inl c49) (Or.inl rfl) hP' (fun y1 y2 T2 h => make y1 y2 T2 (Or.inl ⟨rfl, c49⟩) h)
    · have n44 : ¬ xK X i' = 44 := by
        have b1' := b1
        rw [XG_n] at b1'
        unfold xgN at b1'
        rw [if_neg (by omega), if_neg (by omega), if_neg (by omega), if_pos rfl] at b1'
        omega
      rw [if_neg (fun w => c49 (q49.mp w)), gd, if_pos zz1, if_neg (fun w => n44 (q44.mp w))]
      refine bad ?_
      rw [b4]
      show ¬ ((if xK X i' = 49 then 14 else if xK X i' = 61 then 16 else 17) = 14 ∨ (if xK X i' = 49 then 14 else if xK X i' = 61 then 16 else 17) = 15)
      rw [if_neg c49]
      split <;> omega
  by_cases c4 : k' = 4
  · subst c4
    have k11 : T.1 11 z1 = 44 := by
      have o2' := o2
      rw [RcG_n] at o2'
      unfold RcN Rc0 at o2'
      rw [if_neg (by omega), if_neg (by omega), if_neg (by omega), if_neg (by omega), if_neg (by omega), if_pos rfl] at o2'
      exact o2'.2.2.2.1
    rw [k11, if_neg (by decide), gd, if_pos zz1, if_pos rfl, b8]
    unfold rj_Exprs_checkAddress_91
    rw [nI_1]
    exact y_pl4 (d := d) (u := 1) hX hnf (hI _ sz'.1).1 (hI _ sz'.2).2 (Or.inl rfl) hP' (fun y1 y2 T2 h => make y1 y2 T2 (Or.inr rfl) h)
  rw [kd11 c3 c4]
  obtain ⟨_, _, _, h00, _⟩ := p9.2.2.2.2.2.2.1
  rw [h00, if_neg (by decide), gd, if_pos (nin (by omega) (by omega)), if_neg (by decide)]
  refine bad ?_
  rw [b4]
  exact tk_no c3 c4 b9
end CYJ
