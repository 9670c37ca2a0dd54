/-! arguments -/
/-- what a check of arguments comes to -/
def XAg (R : RgR) (sl : Int32 → Int32) (X : Lx) (S T : gSt) (C : ChR) (kw lv n : Nat) (T' : gSt) : Prop := (XR R sl X C.2.2.2 T' ∧ TyF S C.2.2.2 T T' ∧ T'.1 51 0 = nI (n + (ksE C.2.2.1).length) ∧ KrL R sl C.2.2.2 T' (ksE C.2.2.1) n ∧ (ksE C.2.2.1).length ≤ kw ∧ kGo C.2.2.1 ∧ lvC T' 16384 ≤ lvC T 16384 + lv) ∨ BfR C.2.2.2 T'
section CYO
variable {R : RgR} {S S' S0 S1 S2 T T' T1 T2 : gSt} {X : Lx} {nf d i k n m t e w c a b q g f h r s y z lo hi dd mb y1 y2 kd kw kw1 lv lv1 st u h1 h2 zw np N : Nat} {x v x' pl pr u1 u2 u3 op x1 x2 : Int32} {sl : Int32 → Int32} {ta tb tr : Tr} {o : Bool}
theorem y_args (hX : XO X) (hnf : 16385 ≤ nf) (hI : ∀ t, ndT t < N → CE1 nf X t) (ht : t < 24) (hg : g < 4096) (hn8 : np ≤ 8) : ∀ (tr : Tr) (T : gSt) (lo hi a b m k fl : Nat), ndT tr ≤ N → RcG X T tr 2 lo hi 0 → 1 ≤ lo → hi ≤ 4008 → Wf X tr true a b → b ≤ xn X → XG X tr m 2 → (isZ tr = true ∨ dd + 1 + m = 20) → (isZ tr = true ∨ 8 * m + 114 ≤ d) → WX X T → t < itN T → T.1 32 t = nI np → k + lenT tr = np → lenT tr < fl → wp (rl_Exprs_checkParts_6 (PP nf d) nf fl T (nI t) (nI g) (nI dd) (if isZ tr = true then 0 else nI lo) (nI k)) (fun _ _ T' => FX T T' ∧ ∀ R sl S n W c, XR R sl X S T → DgR R W g → S.1 18 t = nI c → t < inn S → T.1 51 0 = nI n → n + kwT tr ≤ 6032 → lvC T 16384 + lvT X tr + 30 < 16384 → cn (chk X tr (c + k) (nI W) S).2.2.2 < 6000 → agOk S (c + k) (nI W) tr → XAg R sl X S T (chk X tr (c + k) (nI W) S) (kwT tr) (lvT X tr) n T') := by
  have hxn := hX.1
  have zt : inb (nI t) 24 := nin ht (by omega)
  intro tr
  induction tr using Tr_ind with
  | hz tr hz =>
    intro T lo hi a b m k fl hN h hl hh hw hb hx hm hd hW hit h32 hk hf
    unfold RcG at h
    split at h
    · exact absurd rfl (hz _ _ _ _ _)
    · rename_i q
      obtain ⟨fl, rfl⟩ : ∃ g, fl = g + 1 := ⟨fl - 1, by omega⟩
      have hk' : k = np := hk
      rw [rl_Exprs_checkParts_6, gd, if_pos zt, nc (by omega), h32, if_pos (show nI np ≤ nI k from (nI_leI (by omega) (by omega)).mpr (by omega))]
      refine wp_some ⟨FX.rf hW.2.1, fun R sl S n W c hR _ _ _ h51 _ _ _ _ => Or.inl ⟨hR, TyF.rf, h51, trivial, Nat.le_refl 0, kGo.nl, by omega⟩⟩
    · exact h.elim
  | h kk i e ta tb ihA ihB =>
    intro T lo hi a b m k fl hN h hl hh hw hb hx hm hd hW hit h32 hk hf
    have hwt := hw
    rw [RcG_n] at h
    unfold RcN at h
    rw [if_pos rfl] at h
    obtain ⟨c10, _, mm, r1, r2, ⟨yl, r3, r4⟩, r5, r6⟩ := h
    subst c10
    rw [Wf_n] at hw
    unfold WfN at hw
    rw [if_pos rfl] at hw
    obtain ⟨_, b1, c1, f1, f2, f3⟩ := hw
    have le1 := (Wf_le _ false _ _ f2).1 rfl
    have le2 := Wf_le2 f3
    rw [XG_n] at hx
    unfold xgN at hx
    rw [if_pos rfl] at hx
    obtain ⟨_, x1, x2⟩ := hx
    have hm' : dd + 1 + m = 20 := by
      rcases hm with w | w
      · cases w
      · exact w
    have hd' : 8 * m + 114 ≤ d := by
      rcases hd with w | w
      · cases w
      · exact w
    rw [lenT_n] at hk hf
    rw [ndT_n] at hN
    obtain ⟨fl, rfl⟩ : ∃ g, fl = g + 1 := ⟨fl - 1, by omega⟩
    have zl : inb (nI lo) 4008 := nin (by omega) (by omega)
    obtain ⟨np', j1', j2, j3, j4, j5⟩ := hW.2.2.2.2.2.2.2.2 t hit
    have enp : np' = np := nI_inj (by have := j1'.2.1; omega) (by omega) (by rw [← j1'.1, ← h32])
    subst enp
    obtain ⟨yf, y1, y2⟩ := j2 k (by omega)
    rw [show (if isZ (tD 10 i e ta tb) = true then (0 : Int32) else nI lo) = nI lo from rfl, rl_Exprs_checkParts_6, gd, if_pos zt, nc (by omega), h32, if_neg (fun w => by have := (nI_leI (by omega) (by omega)).mp w; omega), if_neg (show ¬ nI lo = 0 from fun w => by
      have := nI_inj (a := lo) (b := 0) (by omega) (by omega) w
      omega)]
    show wp (bi (PP nf d 37 T [nI t, nI k] []) _) _
    rw [c_typeOf (nf := nf) (d := d) ht (by omega) (by omega), bis, y1]
    obtain ⟨zw, T1, k1, k2, k3⟩ := k_told (nf := nf) (g := g) hnf hg 6 1 yf d T hW.2.1 (by omega) (by omega) y2 (by omega)
    rw [show PP nf d 98 T [nI yf, nI g, (1 : Int32)] [] = _ from k1, bis]
    have fx1 := k3.fx
    have W1 := hW.fx fx1
    obtain ⟨d2, rfl⟩ : ∃ g, d = g + 2 := ⟨d - 2, by omega⟩
    rw [nI_1]
    refine wp_bi (y_fits (nf := nf) (d := d2) (m := m) (dd := dd + 1) hX hnf (hI ta (by omega)) ⟨r3.fx fx1, hl, by omega, f2, by omega, x1, by omega, by omega, W1⟩ (by omega) (by rw [fx1.o (by omega)]; exact r4) k2) ?_
    intro _ _ T3 ⟨y, T2, o, hq, ho, e3⟩
    have fx2 := hq.2.1
    have W2 := W1.fx fx2
    have fx3 : FX T2 T3 := by rw [e3]; exact FX.fi fx2.2.2.1
    have fx13 := (fx1.tr fx2).tr fx3
    show wp (gd (inb (nI lo) 4008) _) _
    rw [gd, if_pos zl, nc (by omega), vK, vK, nI_1, fx13.o (k := 14) (by omega), r5]
    refine wp_mono (ihB T3 mm hi c1 b m (k + 1) fl (by omega) (r6.fx fx13) (by omega) hh f3 hb x2 (Or.inr hm') (Or.inr hd') (W2.fx fx3) (by unfold itN at hit ⊢; rw [fx13.o (by omega)]; exact hit) (by rw [fx13.o (by omega)]; exact h32) (by omega) (by omega)) ?_
    intro _ _ T' ⟨fx4, hB⟩
    refine ⟨fx13.tr fx4, fun R sl S n W c hR hD h18 htn h51 hn hlv hcn hag => ?_⟩
    have ekw : kwT (tD 10 i e ta tb) = kwT ta + kwT tb := rfl
    have elv : lvT X (tD 10 i e ta tb) = lvT X ta + lvT X tb + 6 := rfl
    rw [ekw] at hn ⊢
    rw [elv] at hlv ⊢
    have ech : chk X (tD 10 i e ta tb) (c + k) (nI W) S = agC X (chk X ta) (chk X tb) ta (c + k) (nI W) S := by rw [chk_n, if_pos hR.h0]; rfl
    rw [ech] at hcn ⊢
    -- told, kept once
    obtain ⟨zw', T1', c1', c2', c3', c4', c5', c6'⟩ := told_c (nf := nf) (g := g) hnf hg 6 1 yf (d2 + 2) T hW.2.1 (by omega) (by omega) y2 (by omega) (by omega)
    rw [k1] at c1'
    simp only [Option.some.injEq, Prod.mk.injEq, true_and] at c1'
    obtain ⟨ez, rfl⟩ := c1'
    have ezw : zw = zw' := nI_inj (by have := k2.lt; omega) (by have := c2'.lt; omega) ez
    subst ezw
    have F1 : TyF S S T T1 := c4'.tf
    have R1 : XR R sl X S T1 := hR.fx F1 FE.rf fx1 hR.h0 (by rw [k3.1]; exact hR.h53) hR.2.1 (hR.2.2.2.2.2.2.2.2.2.2.st (by rw [k3.1]) (fun _ _ _ => rfl))
    have fa : FE S (chk X ta 0 0 S).2.2.2 := chk_fe ta 0 0 S
    have g1 := fa.tg hR.2.1.1
    have f2' := FE.ch (w := nI W) 7 (chk X ta 0 0 S).2.2.2 ((chk X ta 0 0 S).2.2.2.1 24 (c + k))
    have g2 := f2'.tg g1
    have f3' := FE.ft (T := (chT 7 (chk X ta 0 0 S).2.2.2 ((chk X ta 0 0 S).2.2.2.1 24 (c + k)) (nI W)).2) (x := (chk X ta 0 0 S).1) (y := (chT 7 (chk X ta 0 0 S).2.2.2 ((chk X ta 0 0 S).2.2.2.1 24 (c + k)) (nI W)).1) (v := plT X ta)
    have g3 := f3'.tg g2
    have f4' : FE (ftS (chT 7 (chk X ta 0 0 S).2.2.2 ((chk X ta 0 0 S).2.2.2.1 24 (c + k)) (nI W)).2 (chk X ta 0 0 S).1 (chT 7 (chk X ta 0 0 S).2.2.2 ((chk X ta 0 0 S).2.2.2.1 24 (c + k)) (nI W)).1 (plT X ta)) (chk X tb (c + k + 1) (nI W) (ftS (chT 7 (chk X ta 0 0 S).2.2.2 ((chk X ta 0 0 S).2.2.2.1 24 (c + k)) (nI W)).2 (chk X ta 0 0 S).1 (chT 7 (chk X ta 0 0 S).2.2.2 ((chk X ta 0 0 S).2.2.2.1 24 (c + k)) (nI W)).1 (plT X ta))).2.2.2 := chk_fe tb _ _ _
    unfold agC at hcn ⊢
    by_cases c1 : (chk X ta 0 0 S).2.2.2.1 7 0 = 0
    · rw [if_pos c1] at hcn ⊢
      have n3 := f4'.lt g3 hcn
      have n2 := f3'.lt g2 n3
      have n1 := f2'.lt g1 n2
      have qA := hq.2.2 R sl S n R1 ⟨by rw [k3.1]; exact h51, by omega, by omega, n1⟩
      unfold XQ XOk at qA
      rcases qA with ⟨a1, a2, ⟨h1, a3⟩, a4, a5, a6, a7, a8⟩ | hBf
      · -- the wanted type at this place
        have fx12 := fx1.tr fx2
        have tn1 : t < inn (chk X ta 0 0 S).2.2.2 := by rw [fa.einn]; exact htn
        obtain ⟨c', np'', q1, q2, q3, q4, q5, _, q7⟩ := (a1.2.2.2.2.2.2.2.2.1 t tn1).fl (nm := 0) hX
        have ec : c' = c := nI_inj (by omega) (by
          have := (hag.2 0 (by show 0 < lenT tb + 1; omega)).1
          omega) (by rw [← q2, ← h18, fa.1 18 (by omega)])
        subst ec
        have en2 : np'' = np' := nI_inj (by omega) (by omega) (by rw [← q1.1, fx12.o (by omega), h32])
        subst en2
        obtain ⟨yf', z1, z2, z3⟩ := q7 k (by omega)
        have eyf : yf' = yf := nI_inj (by omega) (by have := y2.lt; omega) (by rw [← z1, fx12.o (by omega), y1])
        subst eyf
        have hx12 : Xt T1 T2 := a2.xt
        have same := c6' T2 hx12 fx2.2.2.1 (by omega)
        obtain ⟨zt, T2', t1, t2, t3, t4⟩ := told_ok (nf := nf) (W := W) (g := g) hnf hR.2.2.2.1 hD 5 (chk X ta 0 0 S).2.2.2 T2 ((chk X ta 0 0 S).2.2.2.1 24 (c' + k)) yf' 1 7 (d2 + 2) z3 (by omega) (by omega) (by omega) g1 fx2.2.2.1.1 (by omega) n2 (by omega)
        rw [show PP nf (d2 + 2) 98 T2 [nI yf', nI g, nI 1] [] = _ from same] at t1
        simp only [Option.some.injEq, Prod.mk.injEq, true_and] at t1
        obtain ⟨t1a, rfl⟩ := t1
        have ezt : zw = zt := nI_inj (by have := k2.lt; omega) (by have := t2.lt; omega) t1a
        subst ezt
        have hg1 := hag.fe fa hR.2.1.1 n1
        obtain ⟨o1, o2, o3⟩ := hg1.2 0 (by show 0 < lenT tb + 1; omega)
        rw [Nat.add_zero] at o1 o2 o3
        have i2 := a1.2.1.ch hag.1 o2 o3 n2
        have R2 : XR R sl X (chT 7 (chk X ta 0 0 S).2.2.2 ((chk X ta 0 0 S).2.2.2.1 24 (c' + k)) (nI W)).2 T2 := a1.fx t3 f2' (FX.rf fx2.2.2.1) (by rw [chT_o (by omega)]; exact a1.h0) a1.h53 i2.1 (a1.2.2.2.2.2.2.2.2.2.2.st rfl (fun k _ _ => by rw [chT_o (by omega)]))
        have nn : ¬ (chT 7 (chk X ta 0 0 S).2.2.2 ((chk X ta 0 0 S).2.2.2.1 24 (c' + k)) (nI W)).1 = -1 ∧ ¬ (chT 7 (chk X ta 0 0 S).2.2.2 ((chk X ta 0 0 S).2.2.2.1 24 (c' + k)) (nI W)).1 = -2 := by
          rcases i2.2 with w | ⟨p, w, p1, p2⟩
          · rw [w]; exact ⟨by decide, by decide⟩
          · have := nIpos p1 (show p < 100000 by omega)
            rw [w]
            exact ⟨fun v => by rw [v] at this; exact absurd this (by decide), fun v => by rw [v] at this; exact absurd this (by decide)⟩
        rcases fits_b (pl := plT X ta) R2 (TyR.mo t3 (fun _ _ z => z) _ _ _ a3) t2 nn.1 nn.2 ho with ⟨s1, s2⟩ | hBf
        · rw [← e3] at s1
          subst s1
          rw [s2] at hcn n3 ⊢
          rw [show c' + k + 1 = c' + (k + 1) from Nat.add_assoc _ _ _] at hcn ⊢
          have hg3 := hg1.fe f2' g1 n2
          have hag' : agOk (chT 7 (chk X ta 0 0 S).2.2.2 ((chk X ta 0 0 S).2.2.2.1 24 (c' + k)) (nI W)).2 (c' + (k + 1)) (nI W) tb := by
            refine ⟨hg3.1, fun j hj => ?_⟩
            have := hg3.2 (j + 1) (by show j + 1 < lenT tb + 1; omega)
            rw [show c' + (k + 1) + j = c' + k + (j + 1) from by omega]
            exact this
          have fT : TyF S (chT 7 (chk X ta 0 0 S).2.2.2 ((chk X ta 0 0 S).2.2.2.1 24 (c' + k)) (nI W)).2 T T3 := (F1.tr a2).tr t3
          have lv3 : lvC T3 16384 ≤ lvC T 16384 + 6 + lvT X ta := by omega
          rcases hB R sl _ (n + (ksE (chk X ta 0 0 S).2.2.1).length) W c' R2 hD (by rw [f2'.1 18 (by omega), fa.1 18 (by omega)]; exact h18) (by rw [f2'.einn]; exact tn1) a4 (by omega) (by omega) hcn hag' with ⟨v1, v2, v3, v4, v5, v6, v7⟩ | hBf
          · have eap := ksE_ap (js := (chk X ta 0 0 S).2.2.1) v6
            refine Or.inl ⟨v1, fT.tr v2, ?_, ?_, ?_, a7.ap v6, by omega⟩
            · dsimp only
              rw [eap, List.length_append, ← Nat.add_assoc]
              exact v3
            · dsimp only
              rw [eap]
              exact KrL.ap _ _ _ (a5.fx (t3.tr v2) (f2'.tr (chk_fe tb _ _ _)) fx4 a4 (by omega)) v4
            · dsimp only
              rw [eap, List.length_append]
              have v5' : (ksE (chk X tb (c' + (k + 1)) (nI W) (chT 7 (chk X ta 0 0 S).2.2.2 ((chk X ta 0 0 S).2.2.2.1 24 (c' + k)) (nI W)).2).2.2.1).length ≤ kwT tb := v5
              exact Nat.add_le_add a6 v5'
          · exact Or.inr hBf
        · rw [← e3] at hBf
          rw [chk_bad hBf.1]
          exact Or.inr (hBf.fx fx4)
      · exact absurd c1 hBf.1
    · rw [if_neg c1] at hcn ⊢
      have qA := hq.2.2 R sl S n R1 ⟨by rw [k3.1]; exact h51, by omega, by omega, hcn⟩
      unfold XQ XOk at qA
      rcases qA with ⟨a1, _⟩ | hBf
      · exact absurd a1.h0 c1
      · exact Or.inr (hBf.fx (fx3.tr fx4))
end CYO
