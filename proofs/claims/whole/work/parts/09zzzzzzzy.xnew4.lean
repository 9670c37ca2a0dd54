/-! new, and every EXPR -/
section CYY
variable {R : RgR} {S S' S0 S1 S2 SR T T' T1 T2 T3 T4 T5 Tm : gSt} {X : Lx} {nf d i k n m t e w c a b q g f h r s y z lo hi dd mb y1 y2 y4 y5 kd kw kw1 lv lv1 st u h1 h2 zw np N W cnt tk : Nat} {x v x' pl pr u1 u2 u3 op x1 x2 : Int32} {sl : Int32 → Int32} {ta tb tr : Tr} {o : Bool}
theorem e_new (hX : XO X) (hnf : 16385 ≤ nf) (hz : ∀ q, xK X q = 4 → ¬ xN X q = 0) (hI : ∀ t, ndT t < ndT (tD 7 i e ta tb) → CE1 nf X t) : CE0 nf X (tD 7 i e ta tb) := by
  refine e_prim hX hnf rfl (fun T lo hi z h => ?_) ?_
  · rw [RcG_n] at h
    unfold RcN Rc0 at h
    rw [if_neg (by omega), if_neg (by omega), if_neg (by omega), if_neg (by omega), if_neg (by omega), if_neg (by omega), if_neg (by omega), if_pos rfl] at h
    exact h.2.1
  intro T lo hi z a b m dd d hP
  have hwf := hP.2.2.2.1
  obtain ⟨p1, p2, p3, p4, p5, p6, p7, p8, p9⟩ := hP
  have hxn := hX.1
  rw [RcG_n] at p1
  unfold RcN Rc0 at p1
  rw [if_neg (by omega), if_neg (by omega), if_neg (by omega), if_neg (by omega), if_neg (by omega), if_neg (by omega), if_neg (by omega), if_pos rfl] at p1
  obtain ⟨r1, r2, r3, r4, r5, r6⟩ := p1
  rw [XG_n] at p6
  unfold xgN at p6
  rw [if_neg (by omega), if_neg (by omega), if_neg (by omega), if_neg (by omega), if_neg (by omega), if_neg (by omega), if_neg (by omega), if_pos rfl] at p6
  obtain ⟨g1, g2, g3, g4, g5, g6⟩ := p6
  rw [Wf_n] at p4
  unfold WfN at p4
  rw [if_neg (by decide), if_neg (by omega), if_neg (by omega), if_neg (by omega), if_neg (by omega), if_neg (by omega), if_neg (by omega), if_pos rfl] at p4
  obtain ⟨f1, f2, c, f3, f4⟩ := p4
  obtain ⟨d, rfl⟩ : ∃ g, d = g + 4 := ⟨d - 4, by omega⟩
  have ekw : kwT (tD 7 i e ta tb) = kwT ta + 1 := rfl
  have elv : lvT X (tD 7 i e ta tb) = lvT X ta + 8 := rfl
  have end_ : ndT (tD 7 i e ta tb) = ndT ta + ndT tb + 1 := rfl
  -- the arguments, as a list
  have hL : ∃ tr, NwL X T tr lo hi (m - 1) dd d (i + 3 + e + 1) c (ndT (tD 7 i e ta tb)) ∧ (xK X (i + 3 + e) = 49 → tr = tD 10 0 0 ta tZ ∧ xK X (i + 3 + e + 1) = 2) ∧ (¬ xK X (i + 3 + e) = 49 → tr = ta ∧ xK X (i + 3 + e) = 40 ∧ lenT ta < 100000) ∧ i + 3 + e < c := by
    by_cases k49 : xK X (i + 3 + e) = 49
    · rw [if_pos k49] at r6 f3 g6
      have z0 := XG_z g6.2
      have m1 : 1 ≤ m := by
        rcases g2 with w | w
        · rw [z0] at w; cases w
        · exact w
      have le := (Wf_le _ false _ _ f3).1 rfl
      have lh : lo + 1 < hi := by
        obtain ⟨y7, y71, _⟩ := r6.2.2
        have := (Rc_le _ _ _ _ _ (by omega) y71).2.1 rfl
        omega
      refine ⟨tD 10 0 0 ta tZ, ⟨?_, r6.1, p2, r1, p3, ?_, by omega, ?_, Or.inr (by omega), Or.inr (by omega), p9, by rw [ndT_n, end_]; show ndT ta + 0 + 1 ≤ _; omega⟩, fun _ => ⟨rfl, g6.1⟩, fun w => absurd k49 w, by omega⟩
      · rw [RcG_n]
        unfold RcN
        rw [if_pos rfl]
        exact ⟨rfl, rfl, hi, lh, Nat.le_refl _, r6.2.2, r6.2.1, rfl, rfl, rfl⟩
      · rw [Wf_n]
        unfold WfN
        rw [if_pos rfl]
        exact ⟨rfl, i + 3 + e + 3, c, by omega, f3, rfl, Nat.le_refl _⟩
      · rw [XG_n]
        unfold xgN
        rw [if_pos rfl]
        exact ⟨rfl, g6.2, rfl⟩
    · rw [if_neg k49] at r6 f3 g6
      have le := Wf_le2 f3
      have hlen := (Wf_le _ true _ _ f3).2 rfl
      exact ⟨ta, ⟨r6.2, r6.1, p2, r1, p3, f3, by omega, g6.2, g2.imp id (fun w => by omega), g2.imp id (fun w => by omega), p9, by omega⟩, fun w => absurd w k49, fun _ => ⟨rfl, g6.1, by omega⟩, by omega⟩
  obtain ⟨tr, hL, hU, hSt, lc⟩ := hL
  rw [e_156 (d := d + 3) (by omega) r4, r3, if_neg (by decide), if_neg (by decide), if_neg (by decide), if_pos rfl]
  have zl : inb (nI lo) 4008 := nin (by omega) (by omega)
  have p9' := p9
  obtain ⟨w1, w2, w3, w4, w5, w6, w7, w8, w9⟩ := p9
  rw [e_Exprs_checkNew _ (d + 2)]
  unfold rb_Exprs_checkNew
  refine wp_bi (R := fun r _ T' => ∃ y, r = nI y ∧ CeQ X T (tD 7 i e ta tb) y T') ?_ (fun r _ T' h => wp_some h)
  obtain ⟨r, T3, a1, a2, a3, a4, a5⟩ := y_lrg (nf := nf) (d := d + 2) (i := i + 1) hX hnf p9' (by omega) (hz _ g4) (by omega)
  rw [gd, if_pos zl, nc (by omega), r4, vK, nI_1, a1, bis, show nI i + 2 = nI (i + 2) from (Int32.ofNat_add i 2).symm]
  have x3 := p9'.fx a3
  obtain ⟨y4, T4, b1, b2, b3⟩ := a_title (nf := nf) (d := d + 2) (i := i + 2) hX hnf x3.1 x3.2.2.1 x3.2.2.2.1 x3.2.1 (by omega) (by omega)
  have x4 := x3.fx b3.fx
  obtain ⟨y5, T5, c1, c2, c3, c4⟩ := k_ptr (nf := nf) (d := d + 2) (T := T4) (k := 3) (r := r) (b := y4) hnf x4.2.1 (by omega) (by omega) (by omega) b2 (by omega)
  have y5l := c2.lt
  rw [b1, bis, show PP nf (d + 2) 88 T4 [(3 : Int32), nI r, nI y4] [] = _ from c1, bis, c_titleBehind (by omega) (by omega), bis]
  have f5 : FX T T5 := (a3.tr b3.fx).tr c4.fx
  have x5 := p9'.fx f5
  have ech : ∀ S : gSt, S.1 7 0 = 0 → chk X (tD 7 i e ta tb) 0 0 S = nwC X (chk X ta) ta i e S := fun S h0 => by rw [chk_n, if_pos h0]; rfl
  have pre : ∀ (R : RgR) (sl : Int32 → Int32) (S : gSt), XR R sl X S T → lvC T 16384 + 30 < 16384 → _ := fun R sl S hR hlv => nw_pre (A := chk X ta) (ta := ta) hX hnf hz hR p9' g3 g5 (by omega) hlv (show 6 ≤ d + 2 by omega) a2 (a5 R sl S hR) b1 b2.lt b3 c1 y5l c4
  rcases tb_a c4.2.2.1 c2 with vt | ⟨t, vt, t24, tit, _⟩
  · rw [vt, if_pos rfl]
    refine wp_some ⟨1, rfl, tyY_1, f5, fun R sl S n hR hm => ?_⟩
    obtain ⟨o1, o2, o3, o4⟩ := hm
    rw [elv] at o3
    unfold XQ
    rw [ech S hR.h0]
    rcases pre R sl S hR (by omega) with ⟨S0, s1, s2⟩ | ⟨c', t', W, g, q, s, s1, s2, s3, s4, s5, s6, s7, s8, s9, s10, s11, s12, s13, s14, s15, s16⟩
    · rw [s1]
      exact Or.inr s2
    · rw [vt] at s14
      exact absurd s14.symm (nI_m1 (by omega))
  · have zt : inb (nI t) 24 := nin t24 (by omega)
    have ct : (nI t).toNatClampNeg = t := nc (by omega)
    rw [vt, if_neg (nI_m1 (by omega)), gd, if_pos zl, f5.o (k := 16) (by omega), r5, show nI i + 3 = nI (i + 3) from (Int32.ofNat_add i 3).symm, show nI (i + 3) + nI e = nI (i + 3 + e) from (Int32.ofNat_add _ _).symm, vK, gd, if_pos zt, ct]
    have fin : ∀ (un : Bool) (T' : gSt) (T18 : gSt), (un = true ↔ T5.1 28 t = 11) → T18 = (if xK X (i + 3 + e) = (if un = true then 49 else 40) then T5 else ntS T5 7 (nI (xP X (i + 3 + e)))) → FX (sI T18 52 6 (T18.1 52 6 + 1)) T' → (un = true → ∃ np, WP X (sI T18 52 6 (T18.1 52 6 + 1)) t np ∧ ∀ ta, tr = tD 10 0 0 ta tZ → i + 3 + e + 1 < xn X → MuQ nf d X (sI T18 52 6 (T18.1 52 6 + 1)) ta y5 t np (i + 3 + e + 1) T') → (un = false → ∃ np, (sI T18 52 6 (T18.1 52 6 + 1)).1 32 t = nI np ∧ np ≤ 8 ∧ ((¬ lenT tr = np ∧ T' = ntS (sI T18 52 6 (T18.1 52 6 + 1)) 7 (nI (xP X (i + 2)))) ∨ (lenT tr = np ∧ ∃ T2, FX (sI T18 52 6 (T18.1 52 6 + 1)) T2 ∧ FX T2 T' ∧ (∀ n, T2.1 51 0 = nI n → n < 6032 → T' = emS T2 n 40 (nI (rkC T2 y5)) (T2.1 41 t)) ∧ ∀ R sl S n W c, XR R sl X S (sI T18 52 6 (T18.1 52 6 + 1)) → DgR R W (rbC (sI T18 52 6 (T18.1 52 6 + 1)) y5) → S.1 18 t = nI c → t < inn S → (sI T18 52 6 (T18.1 52 6 + 1)).1 51 0 = nI n → n + kwT tr ≤ 6032 → lvC (sI T18 52 6 (T18.1 52 6 + 1)) 16384 + lvT X tr + 30 < 16384 → cn (chk X tr c (nI W) S).2.2.2 < 6000 → agOk S c (nI W) tr → XAg R sl X S (sI T18 52 6 (T18.1 52 6 + 1)) (chk X tr c (nI W) S) (kwT tr) (lvT X tr) n T2))) → ∃ y, nI y5 = nI y ∧ CeQ X T (tD 7 i e ta tb) y T' := by
      intro un T' T18 hun e18 fx' hMu hMs
      have f18 : FX T5 T18 := by
        rw [e18]
        by_cases c : xK X (i + 3 + e) = (if un = true then 49 else 40)
        · rw [if_pos c]; exact FX.rf f5.2.2.1
        · rw [if_neg c]; exact FX.nt f5.2.2.1
      have f19 : FX T5 (sI T18 52 6 (T18.1 52 6 + 1)) := f18.tr (FX.ta f18.2.2.1 (by omega))
      refine ⟨y5, rfl, (f19.tr fx').2.2.2.1 _ c2, (f5.tr f19).tr fx', fun R sl S n hR hm => ?_⟩
      obtain ⟨o1, o2, o3, o4⟩ := hm
      have ck := ck_of hX hwf p5 hR.2.1 o4
      unfold XQ
      rw [ekw] at o2 ⊢
      rw [elv] at o3 ⊢
      rw [ech S hR.h0] at o4 ck ⊢
      rcases pre R sl S hR (by omega) with ⟨S0, s1, s2⟩ | ⟨c', t', W, g, q, s, s1, s2, s3, s4, s5, s6, s7, s8, s9, s10, s11, s12, s13, s14, s15, s16⟩
      · rw [s1]
        exact Or.inr (s2.fx (f19.tr fx'))
      · rw [vt] at s14
        have ett : t = t' := nI_inj (by omega) (by omega) s14
        subst ett s13
        rw [s9] at o4 ck ⊢
        have e51 : T5.1 = T.1 := s12.2.2.2.2.1.trans s10.2.2.2.2.1
        have un1 : un = true ↔ S.1 12 t = 1 := by
          rw [hun, e51]
          exact (hR.2.2.2.2.2.2.2.2.1 t s4).un
        have k12 : S.1 12 t = 0 ∨ S.1 12 t = 1 := by
          obtain ⟨m', m1, m2, m3, m4⟩ := hR.1.2.2.1
          rcases (m4 t (by omega)).2.1 with w | w | w
          · exact Or.inl w
          · exact Or.inr w
          · rw [w] at s5; exact absurd (by decide) s5
        have c0 : cn S < 6000 := (fe_nwD (fun f w T => chk_fe ta f w T) : FE S _).lt hR.2.1.1 o4
        by_cases cm : xK X (i + 3 + e) = (if un = true then 49 else 40)
        · rw [if_pos cm] at e18
          subst e18
          obtain ⟨RM, F6, lv6⟩ := nw_st hR p9' s10 s12 f5 c0
          have X5 : Xt T18 (sI T18 52 6 (T18.1 52 6 + 1)) := Xt.ag rfl rfl
          have h51 : (sI T18 52 6 (T18.1 52 6 + 1)).1 51 0 = nI n := by rw [sI_ne (by omega), e51]; exact o1
          cases un with
          | true =>
            rw [if_pos rfl] at cm
            obtain ⟨et, k2⟩ := hU cm
            obtain ⟨np, n1, n2⟩ := hMu rfl
            have ltk := K_lt hX k2 (by omega)
            exact nw_uni hX hnf hR.h0 hR.2.1.1 RM f19.2.2.1 F6 lv6 X5 s10 s12 s2 t24 s4 s6 s7 s8 (un1.mp rfl) cm h51 (by omega) (by omega) o4 ck (show 95 ≤ d by omega) n1 (n2 ta et ltk)
          | false =>
            rw [if_neg (by decide)] at cm
            have k49 : ¬ xK X (i + 3 + e) = 49 := by omega
            obtain ⟨et, _, l100⟩ := hSt k49
            subst et
            have h12 : S.1 12 t = 0 := by
              rcases k12 with w | w
              · exact w
              · exact absurd (un1.mpr w) (by decide)
            exact nw_str hX hR.h0 hR.2.1.1 RM F6 lv6 X5 s10 s12 s2 t24 s4 s6 s7 s8 h12 k49 h51 (by omega) (by omega) o4 ck l100 (hMs rfl)
        · rw [if_neg cm] at e18
          have h53 : T5.1 53 0 = 0 := by rw [e51]; exact hR.h53
          have bf := bf_nt (S := S) (T := T5) (p := nI (xP X (i + 3 + e))) (a := 7) hR.h0 h53 (by decide)
          have sp : nwD X (chk X ta) ta i e (nI c') (nI t) (nI W) S = erR (flT S 7 (nI (xP X (i + 3 + e)))) := by
            have ne : ¬ S.1 12 t = (if xK X (i + 3 + e) = 49 then (1 : Int32) else 0) := by
              by_cases k49 : xK X (i + 3 + e) = 49
              · rw [if_pos k49]
                intro w
                rw [un1.mpr w, if_pos rfl] at cm
                exact cm k49
              · rw [if_neg k49]
                intro w
                have k40 := (hSt k49).2.1
                have : un = false := by
                  cases un with
                  | false => rfl
                  | true => have := un1.mp rfl; rw [w] at this; exact absurd this (by decide)
                rw [this, if_neg (by decide)] at cm
                exact cm k40
            unfold nwD
            dsimp only
            rw [ct, if_neg ne, if_neg bf.1]
          rw [sp]
          rw [← e18] at bf
          exact Or.inr (bf.fx ((FX.ta f18.2.2.1 (by omega)).tr fx'))
    -- demand, tally, make
    have go : ∀ (un : Bool) (y0 x9 : Int32) (T18 : gSt), (un = true ↔ T5.1 28 t = 11) → (x9 = 0 ↔ un = false) → (y0 = 0 ↔ ¬ xK X (i + 3 + e) = (if un = true then 49 else 40)) → wp (rj_Exprs_checkNew_131 (PP nf (d + 2)) nf T5 (nI lo) (nI dd) (nI i) (nI y5) (nI (i + 3 + e)) x9 y0) (fun r _ T' => ∃ y, r = nI y ∧ CeQ X T (tD 7 i e ta tb) y T') := by
      intro un y0 x9 _ hun hx9 hy0
      unfold rj_Exprs_checkNew_131
      rw [c_start hX x5.1 (by omega), bis, c_dem (by omega), bis, show (6 : Int32) = nI 6 from rfl, c_tally (by omega) (by omega), bis]
      generalize h18 : (if y0 = 0 then ntS T5 7 (nI (xP X (i + 3 + e))) else T5) = T18
      have e18 : T18 = (if xK X (i + 3 + e) = (if un = true then 49 else 40) then T5 else ntS T5 7 (nI (xP X (i + 3 + e)))) := by
        rw [← h18]
        by_cases c0 : y0 = 0
        · rw [if_pos c0, if_neg (hy0.mp c0)]
        · rw [if_neg c0, if_pos (Decidable.byContradiction fun w => c0 (hy0.mpr w))]
      have t18 : T18.2 = T5.2 := by
        rw [← h18]
        split
        · unfold ntS; split <;> rfl
        · rfl
      have f18 : FX T5 T18 := by
        rw [e18]
        by_cases c : xK X (i + 3 + e) = (if un = true then 49 else 40)
        · rw [if_pos c]; exact FX.rf f5.2.2.1
        · rw [if_neg c]; exact FX.nt f5.2.2.1
      have f19 : FX T5 (sI T18 52 6 (T18.1 52 6 + 1)) := f18.tr (FX.ta f18.2.2.1 (by omega))
      have L19 := hL.fx (f5.tr f19)
      have y19 := f19.2.2.2.1 _ c2
      have tb19 : tbC (sI T18 52 6 (T18.1 52 6 + 1)) y5 = nI t := by
        have : tbC (sI T18 52 6 (T18.1 52 6 + 1)) y5 = tbC T5 y5 := by
          have e2 : (sI T18 52 6 (T18.1 52 6 + 1)).2 = T5.2 := t18
          unfold tbC bhC kdC kO SW
          rw [e2]
        rw [this]
        exact vt
      have it19 : t < itN (sI T18 52 6 (T18.1 52 6 + 1)) := by unfold itN at tit ⊢; rw [f19.o (by omega)]; exact tit
      by_cases cx : x9 = 0
      · rw [if_pos cx, show nI i + 2 = nI (i + 2) from (Int32.ofNat_add i 2).symm]
        refine wp_bi (y_mst (nf := nf) (d := d) (tk := i + 2) hX hnf hI L19 y19 tb19 t24 it19 (by omega) (by omega)) ?_
        intro _ _ T' ⟨fx', hM⟩
        exact wp_some (fin un T' T18 hun e18 fx' (fun w => by rw [hx9.mp cx] at w; cases w) (fun _ => hM))
      · rw [if_neg cx, nI_1]
        refine wp_bi (y_mun (nf := nf) (d := d) (tk := i + 3 + e + 1) hX hnf hI L19 y19 tb19 t24 it19 (by omega) (by omega)) ?_
        intro _ _ T' ⟨fx', hM⟩
        exact wp_some (fin un T' T18 hun e18 fx' (fun _ => hM) (fun w => absurd (hx9.mpr w) cx))
    have q40 : (nI (xK X (i + 3 + e)) = 40) = (xK X (i + 3 + e) = 40) := ci_eq (j := 40) (by have := (hX.2 (i + 3 + e)).2; omega) (by omega)
    have q49 : (nI (xK X (i + 3 + e)) = 49) = (xK X (i + 3 + e) = 49) := ci_eq (j := 49) (by have := (hX.2 (i + 3 + e)).2; omega) (by omega)
    by_cases c11 : T5.1 28 t = 11
    · rw [if_pos c11]
      unfold rj_Exprs_checkNew_99
      rw [c_kind hX x5.1 (by omega), bis, if_neg (by decide)]
      by_cases ck : xK X (i + 3 + e) = 49
      · rw [if_pos (q49.mpr ck)]
        exact go true 1 1 T5 ⟨fun _ => c11, fun _ => rfl⟩ ⟨fun w => absurd w (by decide), fun w => by cases w⟩ ⟨fun w => absurd w (by decide), fun w => absurd ck w⟩
      · rw [if_neg (fun w => ck (q49.mp w))]
        exact go true 0 1 T5 ⟨fun _ => c11, fun _ => rfl⟩ ⟨fun w => absurd w (by decide), fun w => by cases w⟩ ⟨fun _ => ck, fun _ => rfl⟩
    · rw [if_neg c11]
      unfold rj_Exprs_checkNew_99
      rw [c_kind hX x5.1 (by omega), bis, if_pos rfl]
      by_cases ck : xK X (i + 3 + e) = 40
      · rw [if_pos (q40.mpr ck)]
        exact go false 1 0 T5 ⟨(fun w => by cases w), fun w => absurd w c11⟩ ⟨fun _ => rfl, fun _ => rfl⟩ ⟨fun w => absurd w (by decide), fun w => absurd ck w⟩
      · rw [if_neg (fun w => ck (q40.mp w))]
        exact go false 0 0 T5 ⟨(fun w => by cases w), fun w => absurd w c11⟩ ⟨fun _ => rfl, fun _ => rfl⟩ ⟨fun _ => ck, fun _ => rfl⟩
end CYY
