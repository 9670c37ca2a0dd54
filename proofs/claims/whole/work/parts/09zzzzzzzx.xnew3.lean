/-! new: struct and union, on both sides -/
section CYX
variable {R : RgR} {S S' S0 S1 S2 SR T T' T1 T2 T3 T4 T5 Tm : gSt} {X : Lx} {nf d i k n m t e w c a b q g f h r s y z lo hi dd mb y1 y2 y4 y5 kd kw kw1 lv lv1 st u h1 h2 zw np N W cnt tk : Nat} {x v x' pl pr u1 u2 u3 op x1 x2 : Int32} {sl : Int32 → Int32} {ta tb tr : Tr} {o : Bool} {A : ChF}
theorem nw_ky (hq1 : KpQ T T4 q (6 + 8 * t + 256 * g)) (hq2 : KpQ T4 T5 s (3 + 8 * r + 128 * (q + 3))) (X2 : Xt T5 T2) (ht : t < 24) (hg : g < 4096) (hr : r < 16) : lvK T2 q ∧ kO T2 (q + 3) = 6 + 8 * t + 256 * g ∧ lvK T2 s ∧ kO T2 (s + 3) = 3 + 8 * r + 128 * (q + 3) ∧ rkC T2 (s + 3) = r ∧ rbC T2 (s + 3) = g ∧ tbC T2 (s + 3) = nI t := by
  have ekm : KM = 16777216 := rfl
  have l1 := hq1.1
  have l2 := hq2.1
  have ky := hq2.key (by omega)
  have ky1 := hq1.key (by omega)
  have old := hq2.old (q := q) l1 ky1.2
  have o1 := X2.lv l1 old.2.1
  have o2 := X2.lv l2 ky.2
  have k1 : kO T2 (q + 3) = 6 + 8 * t + 256 * g := by
    rw [X2.ko (Or.inr ⟨by omega, by rw [show q + 3 - 3 = q by omega]; exact old.2.1⟩), old.2.2]
    exact ky1.1
  have k2 : kO T2 (s + 3) = 3 + 8 * r + 128 * (q + 3) := by
    rw [X2.ko (Or.inr ⟨by omega, by rw [show s + 3 - 3 = s by omega]; exact ky.2⟩)]
    exact ky.1
  have k5 : kdC T2 (s + 3) = 3 := by unfold kdC; rw [if_neg (by omega), k2]; omega
  have b5 : bhC T2 (s + 3) = q + 3 := by unfold bhC; rw [k2]; omega
  refine ⟨o1.1, k1, o2.1, k2, ?_, ?_, ?_⟩
  · unfold rkC
    rw [k2]
    omega
  · unfold rbC
    rw [b5, k1]
    omega
  · unfold tbC
    rw [k5, b5, k1, if_pos ⟨Or.inl rfl, by omega⟩, show (6 + 8 * t + 256 * g) / 8 % 32 = t by omega]
/-- the make, and the pointer -/
theorem nw_fin (RQ : XR R sl X SR T2) (X2 : Xt T5 T2) (hq1 : KpQ T T4 q (6 + 8 * t + 256 * g)) (hq2 : KpQ T4 T5 s (3 + 8 * r + 128 * (q + 3))) (h51 : T2.1 51 0 = nI n) (hn : n < 6032) (eT : T' = emS T2 n u1 u2 u3) (hRc : R c r) (ht : t < 24) (hg : g < 4096) (hp : PkR R SR t (nI W) g) (hcn : cn (knS SR (1, nI c, -1, nI t, nI W)) < 6000) (ck : Ck (knS SR (1, nI c, -1, nI t, nI W))) : XR R sl X (knS SR (1, nI c, -1, nI t, nI W)) T' ∧ TyF SR (knS SR (1, nI c, -1, nI t, nI W)) T2 T' ∧ TyR R (knS SR (1, nI c, -1, nI t, nI W)) T' 1 (knR SR (1, nI c, -1, nI t, nI W)) (s + 3) ∧ itR R (knS SR (1, nI c, -1, nI t, nI W)) T' (knR SR (1, nI c, -1, nI t, nI W)) t ∧ T'.1 51 0 = nI (n + 1) ∧ cw3 T' n = (u1, u2, u3) ∧ lvC T' 16384 = lvC T2 16384 := by
  have hr := (RQ.2.2.2.2.1 _ _ hRc).2
  obtain ⟨k1, k2, k3, k4, _⟩ := nw_ky hq1 hq2 X2 ht hg (by omega)
  obtain ⟨b1, b2, b3, b4, b5⟩ := RQ.em (S2 := SR) (T5 := T2) (u1 := u1) (u2 := u2) (u3 := u3) h51 hn (fun _ _ => rfl) rfl rfl (fun _ _ _ => rfl) RQ.2.1 RQ.2.2.2.2.2.2.2.2.2.2
  rw [← eT] at b1 b2 b3 b5
  have X3 : Xt T2 T' := b2.xt
  have o1' := X3.lv hq1.1 k1
  have o2' := X3.lv hq2.1 k3
  have k1' : kO T' (q + 3) = 6 + 8 * t + 256 * g := by rw [eT]; exact k2
  have k2' : kO T' (s + 3) = 3 + 8 * r + 128 * (q + 3) := by rw [eT]; exact k4
  obtain ⟨d1, d2, d3, d4⟩ := nw_ptr b1 b3.2.2.1 hq1.1 o1'.1 k1' hq2.1 o2'.1 k2' hRc ht hg hp hcn ck
  exact ⟨d1, b2.tr d2, d3, d4, by rw [eT]; exact em_51, by rw [eT]; exact em_row, b5⟩
/-- struct -/
theorem nw_str (hX : XO X) (h0 : S.1 7 0 = 0) (hT0 : Tg S) (RM : XR R sl X (mkS S) Tm) (F6 : TyF S (mkS S) T Tm) (lv6 : lvC Tm 16384 ≤ lvC T 16384 + 2) (X5 : Xt T5 Tm) (hq1 : KpQ T T4 q (6 + 8 * t + 256 * g)) (hq2 : KpQ T4 T5 s (3 + 8 * r + 128 * (q + 3))) (hRc : R c r) (ht : t < 24) (hti : t < inn S) (hg : g < 4096) (hp : PkR R S t (nI W) g) (hD : DgR R W g) (h12 : S.1 12 t = 0) (h49 : ¬ xK X (i + 3 + e) = 49) (h51 : Tm.1 51 0 = nI n) (hn : n + kwT ta + 1 ≤ 6032) (hlv : lvC T 16384 + lvT X ta + 8 + 30 < 16384) (hcn : cn (nwD X (chk X ta) ta i e (nI c) (nI t) (nI W) S).2.2.2 < 6000) (ck : Ck (nwD X (chk X ta) ta i e (nI c) (nI t) (nI W) S).2.2.2) (hl100 : lenT ta < 100000) (hM : ∃ np, Tm.1 32 t = nI np ∧ np ≤ 8 ∧ ((¬ lenT ta = np ∧ T' = ntS Tm 7 (nI (xP X (i + 2)))) ∨ (lenT ta = np ∧ ∃ T2, FX Tm T2 ∧ FX T2 T' ∧ (∀ n, T2.1 51 0 = nI n → n < 6032 → T' = emS T2 n 40 (nI (rkC T2 (s + 3))) (T2.1 41 t)) ∧ ∀ R sl S n W c, XR R sl X S Tm → DgR R W (rbC Tm (s + 3)) → S.1 18 t = nI c → t < inn S → Tm.1 51 0 = nI n → n + kwT ta ≤ 6032 → lvC Tm 16384 + lvT X ta + 30 < 16384 → cn (chk X ta c (nI W) S).2.2.2 < 6000 → agOk S c (nI W) ta → XAg R sl X S Tm (chk X ta c (nI W) S) (kwT ta) (lvT X ta) n T2))) : XOk R sl X S T (nwD X (chk X ta) ta i e (nI c) (nI t) (nI W) S) (kwT ta + 1) (lvT X ta + 8) n (s + 3) T' := by
  have ct : (nI t).toNatClampNeg = t := nc (by omega)
  have hr := (RM.2.2.2.2.1 _ _ hRc).2
  have i1 : t < inn (mkS S) := by rw [mk_inn]; exact hti
  obtain ⟨np, v1, v2, v3⟩ := hM
  obtain ⟨c', np', q1, q2, q3, q4, q5, _, q7⟩ := (RM.2.2.2.2.2.2.2.2.1 t i1).fl (nm := 0) hX
  have enp : np' = np := nI_inj (by omega) (by omega) (by rw [← q1.1, ← v1])
  subst enp
  have q2' : S.1 18 t = nI c' := by rw [mI_18] at q2; exact q2
  have q4' : S.1 19 t = nI np' := by rw [mI_19] at q4; exact q4
  have ql : (nI (lenT ta) = nI np') = (lenT ta = np') := ci_eq (by omega) (by omega)
  have sp : nwD X (chk X ta) ta i e (nI c) (nI t) (nI W) S = (let T1 := (if nI (lenT ta) = nI np' then S else flT S 7 (nI (xP X (i + 2)))); if T1.1 7 0 = 0 then (let R := chk X ta (T1.1 18 t).toNatClampNeg (nI W) T1; if R.2.2.2.1 7 0 = 0 then (knR (mkS R.2.2.2) (1, nI c, -1, nI t, nI W), 0, R.2.2.1 ++ [j1 16 (nI c) (knR (mkS R.2.2.2) (1, nI c, -1, nI t, nI W)) 0 0], knS (mkS R.2.2.2) (1, nI c, -1, nI t, nI W)) else erR R.2.2.2) else erR T1) := by
    unfold nwD
    simp only [if_neg h49, ct, h12, q4', if_true]
  rw [sp] at hcn ck ⊢
  dsimp only at hcn ck ⊢
  rcases v3 with ⟨cl, eT⟩ | ⟨cl, T2, f2, f3, hem, hAg⟩
  · have bf := bf_nt (S := S) (T := Tm) (p := nI (xP X (i + 2))) (a := 7) h0 RM.h53 (by decide)
    rw [if_neg (show ¬ nI (lenT ta) = nI np' from fun w => cl (ql.mp w)), if_neg bf.1, eT]
    exact Or.inr bf
  · simp only [if_pos (show nI (lenT ta) = nI np' from ql.mpr cl), if_pos h0, q2', nc (show c' < 100000 by omega)] at hcn ck ⊢
    have fA : FE S (chk X ta c' (nI W) S).2.2.2 := chk_fe ta _ _ _
    have gA := fA.tg hT0
    have nA : cn (chk X ta c' (nI W) S).2.2.2 < 6000 := by
      split at hcn
      · exact (FE.mk.tr FE.kn : FE (chk X ta c' (nI W) S).2.2.2 _).lt gA hcn
      · exact hcn
    have q19 : nI (lenT ta) = (mkS S).1 19 t := by rw [q4, cl]
    have ag := ag_it (t := ta) RM.2.1 i1 q19 hl100 (hD.pk RM.2.2.2.2.1)
    rw [q2, nc (by omega)] at ag
    obtain ⟨_, _, _, _, _, kb, _⟩ := nw_ky hq1 hq2 X5 ht hg (by omega)
    have hA := hAg R sl (mkS S) n W c' RM (by rw [kb]; exact hD) q2 i1 h51 (by omega) (by omega) (by rw [chk_mk]; show cn (mkS _) < 6000; rw [mk_cn]; exact nA) ag
    rw [chk_mk] at hA
    unfold XAg mkC at hA
    dsimp only at hA
    rcases hA with ⟨a1, a2, a3, a4, a5, a6, a7⟩ | bf
    · have h7 : (chk X ta c' (nI W) S).2.2.2.1 7 0 = 0 := by have := a1.h0; rw [mI_7] at this; exact this
      rw [if_pos h7] at hcn ck ⊢
      have eT := hem _ a3 (by omega)
      have X2 : Xt T5 T2 := X5.tr a2.xt
      obtain ⟨_, _, _, _, hrk2, _⟩ := nw_ky hq1 hq2 X2 ht hg (by omega)
      rw [hrk2] at eT
      have hp2 : PkR R (mkS (chk X ta c' (nI W) S).2.2.2) t (nI W) g := hp.mo (by rw [mI_15]; exact fA.1 15 (by omega)) (fun _ _ z => z)
      obtain ⟨d1, d2, d3, d4, d5, d6, d7⟩ := nw_fin a1 X2 hq1 hq2 a3 (by omega) eT hRc ht hg hp2 hcn ck
      refine XOk.ap1 (kw1 := kwT ta) (F6.tr a2) a3 a4 a5 a6 (by omega) f3 FE.kn d1 d2 ⟨1, d3⟩ d5 (KrO_16 ⟨c, r, rfl, rfl, hRc⟩ d4 ?_) (by show ¬ (16 : Int32) = 7; decide) (by omega) (by omega)
      rw [f3.o (k := 41) (by omega)]
      exact d6
    · have h7 : ¬ (chk X ta c' (nI W) S).2.2.2.1 7 0 = 0 := fun w => bf.1 (by rw [mI_7]; exact w)
      rw [if_neg h7]
      refine Or.inr (BfR.fx ⟨h7, ?_, ?_⟩ f3)
      · have := bf.2.1; rw [mI_7] at this; exact this
      · have := bf.2.2; rw [mI_8] at this; exact this
/-- union -/
theorem nw_uni (hX : XO X) (hnf : 16385 ≤ nf) (h0 : S.1 7 0 = 0) (hT0 : Tg S) (RM : XR R sl X (mkS S) Tm) (hWm : WT Tm) (F6 : TyF S (mkS S) T Tm) (lv6 : lvC Tm 16384 ≤ lvC T 16384 + 2) (X5 : Xt T5 Tm) (hq1 : KpQ T T4 q (6 + 8 * t + 256 * g)) (hq2 : KpQ T4 T5 s (3 + 8 * r + 128 * (q + 3))) (hRc : R c r) (ht : t < 24) (hti : t < inn S) (hg : g < 4096) (hp : PkR R S t (nI W) g) (hD : DgR R W g) (h12 : S.1 12 t = 1) (h49 : xK X (i + 3 + e) = 49) (h51 : Tm.1 51 0 = nI n) (hn : n + kwT ta + 1 ≤ 6032) (hlv : lvC T 16384 + lvT X ta + 8 + 30 < 16384) (hcn : cn (nwD X (chk X ta) ta i e (nI c) (nI t) (nI W) S).2.2.2 < 6000) (ck : Ck (nwD X (chk X ta) ta i e (nI c) (nI t) (nI W) S).2.2.2) (hd : 95 ≤ d) (hWP : WP X Tm t np) (hM : MuQ nf d X Tm ta (s + 3) t np (i + 3 + e + 1) T') : XOk R sl X S T (nwD X (chk X ta) ta i e (nI c) (nI t) (nI W) S) (kwT ta + 1) (lvT X ta + 8) n (s + 3) T' := by
  have ct : (nI t).toNatClampNeg = t := nc (by omega)
  have hr := (RM.2.2.2.2.1 _ _ hRc).2
  have i1 : t < inn (mkS S) := by rw [mk_inn]; exact hti
  obtain ⟨c', np', q1, q2, q3, q4, q5, q6, q7⟩ := (RM.2.2.2.2.2.2.2.2.1 t i1).fl (nm := xN X (i + 3 + e + 1)) hX
  have np8 := hWP.2.1
  have enp : np' = np := nI_inj (by omega) (by omega) (by rw [← q1.1, ← hWP.1])
  subst enp
  have q2' : S.1 18 t = nI c' := by rw [mI_18] at q2; exact q2
  have q4' : S.1 19 t = nI np' := by rw [mI_19] at q4; exact q4
  have ef : fnF S (nI t) (xN X (i + 3 + e + 1)) = ff (isPn X Tm t (xN X (i + 3 + e + 1))) 0 np' := by
    unfold fnF
    rw [ct, q2', q4', nc (by omega), nc (by omega), q6]
    rfl
  have sp : nwD X (chk X ta) ta i e (nI c) (nI t) (nI W) S = if 0 ≤ ff (isPn X Tm t (xN X (i + 3 + e + 1))) 0 np' then (let R := chk X ta 0 0 S; let C := chT 7 R.2.2.2 (fty R.2.2.2 (nI t) (ff (isPn X Tm t (xN X (i + 3 + e + 1))) 0 np')) (nI W); let T2 := ftS C.2 R.1 C.1 (plT X ta); if T2.1 7 0 = 0 then (knR (mkS T2) (1, nI c, -1, nI t, nI W), 0, R.2.2.1 ++ [j1 17 (nI c) (knR (mkS T2) (1, nI c, -1, nI t, nI W)) (ff (isPn X Tm t (xN X (i + 3 + e + 1))) 0 np') 0], knS (mkS T2) (1, nI c, -1, nI t, nI W)) else erR T2) else erR (flT S 3 (nI (xP X (i + 3 + e + 1)))) := by
    unfold nwD
    simp only [if_pos h49, ct, h12, if_true, show ¬ (1 : Int32) = 0 by decide, if_false, if_pos h0, ef]
  rw [sp] at hcn ck ⊢
  dsimp only at hcn ck ⊢
  rcases hM with ⟨e1, eT⟩ | ⟨fq, yf, zw, T1, yv, T2, o, e1, e2, e3, e4, k1, k2, k3, hq, ho, f4, hem⟩
  · have bf := bf_nt (S := S) (T := Tm) (p := nI (xP X (i + 3 + e + 1))) (a := 3) h0 RM.h53 (by decide)
    rw [e1, if_neg (by decide), eT]
    exact Or.inr bf
  · have cf : (nI fq).toNatClampNeg = fq := nc (by omega)
    have fA : FE S (chk X ta 0 0 S).2.2.2 := chk_fe ta _ _ _
    have gA := fA.tg hT0
    have eft : fty (chk X ta 0 0 S).2.2.2 (nI t) (nI fq) = (chk X ta 0 0 S).2.2.2.1 24 (c' + fq) := by
      unfold fty
      rw [ct, fA.1 18 (by omega), q2', show nI c' + nI fq = nI (c' + fq) from (Int32.ofNat_add _ _).symm, nc (by omega)]
    rw [e1, if_pos (nI0le (by omega)), eft] at hcn ck ⊢
    have fC := FE.ch (w := nI W) 7 (chk X ta 0 0 S).2.2.2 ((chk X ta 0 0 S).2.2.2.1 24 (c' + fq))
    have gC := fC.tg gA
    have fF := FE.ft (T := (chT 7 (chk X ta 0 0 S).2.2.2 ((chk X ta 0 0 S).2.2.2.1 24 (c' + fq)) (nI W)).2) (x := (chk X ta 0 0 S).1) (y := (chT 7 (chk X ta 0 0 S).2.2.2 ((chk X ta 0 0 S).2.2.2.1 24 (c' + fq)) (nI W)).1) (v := plT X ta)
    have gF := fF.tg gC
    have nF : cn (ftS (chT 7 (chk X ta 0 0 S).2.2.2 ((chk X ta 0 0 S).2.2.2.1 24 (c' + fq)) (nI W)).2 (chk X ta 0 0 S).1 (chT 7 (chk X ta 0 0 S).2.2.2 ((chk X ta 0 0 S).2.2.2.1 24 (c' + fq)) (nI W)).1 (plT X ta)) < 6000 := by
      split at hcn
      · exact (FE.mk.tr FE.kn : FE (ftS (chT 7 (chk X ta 0 0 S).2.2.2 ((chk X ta 0 0 S).2.2.2.1 24 (c' + fq)) (nI W)).2 (chk X ta 0 0 S).1 (chT 7 (chk X ta 0 0 S).2.2.2 ((chk X ta 0 0 S).2.2.2.1 24 (c' + fq)) (nI W)).1 (plT X ta)) _).lt gF hcn
      · exact hcn
    have nC := fF.lt gC nF
    have nA := fC.lt gA nC
    -- told, kept once
    obtain ⟨_, _, _, _, _, kb, _⟩ := nw_ky hq1 hq2 X5 ht hg (by omega)
    rw [kb] at k1
    obtain ⟨zw', T1', c1', c2', c3', c4', c5', c6'⟩ := told_c (nf := nf) (g := g) hnf hg 6 1 yf (d + 1) Tm hWm (by omega) (by omega) e4 (by omega) (by omega)
    rw [k1] at c1'
    simp only [Option.some.injEq, Prod.mk.injEq, true_and] at c1'
    obtain ⟨ez, rfl⟩ := c1'
    have ezw : zw = zw' := nI_inj (by have := k2.lt; omega) (by have := c2'.lt; omega) ez
    subst ezw
    have F1 : TyF (mkS S) (mkS S) Tm T1 := c4'.tf
    have R1 : XR R sl X (mkS S) T1 := RM.fx F1 FE.rf k3.fx RM.h0 (by rw [k3.1]; exact RM.h53) RM.2.1 (RM.2.2.2.2.2.2.2.2.2.2.st (by rw [k3.1]) (fun _ _ _ => rfl))
    have fx2 := hq.2.1
    have fx3 : FX T2 (fiS T2 yv zw o (plT X ta)) := FX.fi fx2.2.2.1
    have qA := hq.2.2 R sl (mkS S) n R1 ⟨by rw [k3.1]; exact h51, by omega, by omega, by rw [chk_mk]; show cn (mkS _) < 6000; rw [mk_cn]; exact nA⟩
    unfold XQ at qA
    rw [chk_mk] at qA
    unfold XOk mkC at qA
    dsimp only at qA
    rcases qA with ⟨a1, a2, ⟨h1, a3⟩, a4, a5, a6, a7, a8⟩ | bf
    · have h7 : (chk X ta 0 0 S).2.2.2.1 7 0 = 0 := by have := a1.h0; rw [mI_7] at this; exact this
      have fx12 := k3.fx.tr fx2
      obtain ⟨yf', z1, z2, z3⟩ := q7 fq (by omega)
      have eyf : yf' = yf := nI_inj (by omega) (by have := e4.lt; omega) (by rw [← z1, e3])
      subst eyf
      have z3' : TyR R0 (mkS (chk X ta 0 0 S).2.2.2) T2 5 ((mkS (chk X ta 0 0 S).2.2.2).1 24 (c' + fq)) yf' := by
        rw [mI_24, fA.1 24 (by omega)]
        rw [mI_24] at z3
        exact TyR.mo (F1.tr a2) (fun _ _ z => z) _ _ _ z3
      have same := c6' T2 a2.xt fx2.2.2.1 (by omega)
      have n2' : cn (chT 7 (mkS (chk X ta 0 0 S).2.2.2) ((mkS (chk X ta 0 0 S).2.2.2).1 24 (c' + fq)) (nI W)).2 < 6000 := by
        rw [mk_chT, mI_24]
        show cn (mkS _) < 6000
        rw [mk_cn]
        exact nC
      obtain ⟨zt, T2', t1, t2, t3, t4⟩ := told_ok (nf := nf) (W := W) (g := g) hnf RM.2.2.2.1 hD 5 (mkS (chk X ta 0 0 S).2.2.2) T2 ((mkS (chk X ta 0 0 S).2.2.2).1 24 (c' + fq)) yf' 1 7 (d + 1) z3' (by omega) (by omega) (by omega) a1.2.1.1 fx2.2.2.1.1 (by omega) n2' (by omega)
      rw [show PP nf (d + 1) 98 T2 [nI yf', nI g, nI 1] [] = _ from same] at t1
      simp only [Option.some.injEq, Prod.mk.injEq, true_and] at t1
      obtain ⟨t1a, rfl⟩ := t1
      have ezt : zw = zt := nI_inj (by have := k2.lt; omega) (by have := t2.lt; omega) t1a
      subst ezt
      rw [mk_chT, mI_24] at t2 t3
      dsimp only at t2 t3
      have it := a1.2.1.2.2.2.2.1.2.2 t (by rw [mk_inn, fA.einn]; exact hti)
      obtain ⟨cc, mm, rr, ww, i1', i2', i3', i4', i5', i6', i7', i8', i9', i10', i11'⟩ := it
      have ecc : cc = c' := nI_inj (by omega) (by omega) (by rw [← i1', mI_18, fA.1 18 (by omega), q2'])
      have emm : mm = np' := nI_inj (by omega) (by omega) (by rw [← i2', mI_19, fA.1 19 (by omega), q4'])
      subst ecc emm
      obtain ⟨o2, o3⟩ := i9' fq (by omega)
      have i2 := a1.2.1.ch (hD.pk RM.2.2.2.2.1) o2 o3 n2'
      rw [mk_chT, mI_24] at i2
      dsimp only at i2
      have R2 : XR R sl X (mkS (chT 7 (chk X ta 0 0 S).2.2.2 ((chk X ta 0 0 S).2.2.2.1 24 (cc + fq)) (nI W)).2) T2 := a1.fx t3 (by
        have := FE.ch (w := nI W) 7 (mkS (chk X ta 0 0 S).2.2.2) ((chk X ta 0 0 S).2.2.2.1 24 (cc + fq))
        rw [mk_chT] at this
        exact this) (FX.rf fx2.2.2.1) (by rw [mI_7, chT_o (by omega)]; exact h7) a1.h53 i2.1 (a1.2.2.2.2.2.2.2.2.2.2.st rfl (fun k k1 k2 => by
          by_cases c91 : k = 91
          · subst c91
            unfold mkS
            rw [sI_v, sI_v, chT_o (by omega)]
          · rw [mk_i c91, mk_i c91, chT_o (by omega)]))
      have nn : ¬ (chT 7 (chk X ta 0 0 S).2.2.2 ((chk X ta 0 0 S).2.2.2.1 24 (cc + fq)) (nI W)).1 = -1 ∧ ¬ (chT 7 (chk X ta 0 0 S).2.2.2 ((chk X ta 0 0 S).2.2.2.1 24 (cc + fq)) (nI W)).1 = -2 := by
        rcases i2.2 with w | ⟨p, w, p1, p2⟩
        · rw [w]; exact ⟨by decide, by decide⟩
        · have c6 : p < 6000 := by
            have := i2.1.1
            have n9 := nC
            have : cn (mkS (chT 7 (chk X ta 0 0 S).2.2.2 ((chk X ta 0 0 S).2.2.2.1 24 (cc + fq)) (nI W)).2) = cn (chT 7 (chk X ta 0 0 S).2.2.2 ((chk X ta 0 0 S).2.2.2.1 24 (cc + fq)) (nI W)).2 := mk_cn
            omega
          have := nIpos p1 (show p < 100000 by omega)
          rw [w]
          exact ⟨fun v => by rw [v] at this; exact absurd this (by decide), fun v => by rw [v] at this; exact absurd this (by decide)⟩
      rcases fits_b (pl := plT X ta) R2 (TyR.mo t3 (fun _ _ z => z) _ _ _ a3) t2 nn.1 nn.2 ho with ⟨s1, s2⟩ | bf
      · rw [s1] at f4 hem
        rw [mk_ftS] at s2
        have s7 : (ftS (chT 7 (chk X ta 0 0 S).2.2.2 ((chk X ta 0 0 S).2.2.2.1 24 (cc + fq)) (nI W)).2 (chk X ta 0 0 S).1 (chT 7 (chk X ta 0 0 S).2.2.2 ((chk X ta 0 0 S).2.2.2.1 24 (cc + fq)) (nI W)).1 (plT X ta)).1 7 0 = 0 := by
          have := R2.h0
          rw [← s2, mI_7] at this
          exact this
        rw [if_pos s7, s2] at hcn ck ⊢
        have eT := hem _ a4 (by omega)
        have X2 : Xt T5 T2 := (X5.tr c4').tr a2.xt
        obtain ⟨_, _, _, _, hrk2, _⟩ := nw_ky hq1 hq2 X2 ht hg (by omega)
        rw [hrk2] at eT
        have hp2 : PkR R (mkS (chT 7 (chk X ta 0 0 S).2.2.2 ((chk X ta 0 0 S).2.2.2.1 24 (cc + fq)) (nI W)).2) t (nI W) g := hp.mo (by rw [mI_15, chT_o (by omega)]; exact fA.1 15 (by omega)) (fun _ _ z => z)
        obtain ⟨d1, d2, d3, d4, d5, d6, d7⟩ := nw_fin R2 X2 hq1 hq2 a4 (by omega) eT hRc ht hg hp2 hcn ck
        have fe2 : FE (mkS (chk X ta 0 0 S).2.2.2) (mkS (chT 7 (chk X ta 0 0 S).2.2.2 ((chk X ta 0 0 S).2.2.2.1 24 (cc + fq)) (nI W)).2) := by
          have := FE.ch (w := nI W) 7 (mkS (chk X ta 0 0 S).2.2.2) ((chk X ta 0 0 S).2.2.2.1 24 (cc + fq))
          rw [mk_chT] at this
          exact this
        have kk : kdC T2 zw = kdC T2 yf' := by
          have k5 : kdC T2 yf' ≤ 5 := z3'.k5
          exact told_kd hnf fx2.2.2.1 (fx12.2.2.2.1 _ e4) k5 hg (by omega) (by omega) k2.lt same
        have wd : wdC T2 zw = wdC T2 yf' := wd_eq fx2.2.2.1 (fx2.2.2.2.1 _ k2) (fx12.2.2.2.1 _ e4) kk
        have F2e : TyF (mkS (chk X ta 0 0 S).2.2.2) (knS (mkS (chT 7 (chk X ta 0 0 S).2.2.2 ((chk X ta 0 0 S).2.2.2.1 24 (cc + fq)) (nI W)).2) (1, nI c, -1, nI t, nI W)) T2 T' := t3.tr d2
        refine XOk.ap1 (kw1 := kwT ta) (F6.tr (F1.tr a2)) a4 a5 a6 a7 (by omega) f4 (fe2.tr FE.kn) d1 F2e ⟨1, d3⟩ d5 (KrO_17 (y := yf') ⟨c, r, rfl, rfl, hRc⟩ d4 ?_ z2 (TyR.mo F2e (fun _ _ z => z) _ _ _ z3') ?_) (by show ¬ (17 : Int32) = 7; decide) (by omega) (by omega)
        · rw [cf, f4.o (k := 44) (by omega), fx12.o (k := 44) (by omega)]
          exact e3
        · rw [f4.o (k := 41) (by omega), z3'.wd F2e, ← wd]
          exact d6
      · rw [mk_ftS] at bf
        have h7' : ¬ (ftS (chT 7 (chk X ta 0 0 S).2.2.2 ((chk X ta 0 0 S).2.2.2.1 24 (cc + fq)) (nI W)).2 (chk X ta 0 0 S).1 (chT 7 (chk X ta 0 0 S).2.2.2 ((chk X ta 0 0 S).2.2.2.1 24 (cc + fq)) (nI W)).1 (plT X ta)).1 7 0 = 0 := fun w => bf.1 (by rw [mI_7]; exact w)
        rw [if_neg h7']
        refine Or.inr (BfR.fx ⟨h7', ?_, ?_⟩ f4)
        · have := bf.2.1; rw [mI_7] at this; exact this
        · have := bf.2.2; rw [mI_8] at this; exact this
    · have h7 : ¬ (chk X ta 0 0 S).2.2.2.1 7 0 = 0 := fun w => bf.1 (by rw [mI_7]; exact w)
      have hb7 : ¬ (chT 7 (chk X ta 0 0 S).2.2.2 ((chk X ta 0 0 S).2.2.2.1 24 (c' + fq)) (nI W)).2.1 7 0 = 0 := by rw [chT_o (by omega)]; exact h7
      have ftb : ftS (chT 7 (chk X ta 0 0 S).2.2.2 ((chk X ta 0 0 S).2.2.2.1 24 (c' + fq)) (nI W)).2 (chk X ta 0 0 S).1 (chT 7 (chk X ta 0 0 S).2.2.2 ((chk X ta 0 0 S).2.2.2.1 24 (c' + fq)) (nI W)).1 (plT X ta) = (chT 7 (chk X ta 0 0 S).2.2.2 ((chk X ta 0 0 S).2.2.2.1 24 (c' + fq)) (nI W)).2 := by
        unfold ftS
        rw [if_neg (fun w => hb7 w.1)]
      rw [ftb, if_neg hb7]
      refine Or.inr (BfR.fx ⟨hb7, ?_, ?_⟩ (fx3.tr f4))
      · have := bf.2.1; rw [mI_7] at this; dsimp only [erR]; rw [chT_o (by omega)]; exact this
      · have := bf.2.2; rw [mI_8] at this; dsimp only [erR]; rw [chT_o (by omega)]; exact this
end CYX
