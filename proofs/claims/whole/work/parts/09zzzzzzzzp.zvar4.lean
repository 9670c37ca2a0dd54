/-! a var STEP on both sides: the STEP -/
def c88 (T T' : gSt) : Prop := ∀ k, 88 ≤ k → T'.1 k = T.1 k
section ZS7
variable {S S' T T' T1 T2 T3 : gSt} {X : Lx} {nf d it e v g n dd v' g' k i e' u c m lo hi a b n0 y z p q r j s f yv yx : Nat} {ta tb tr : Tr} {pl x op w cc t x4 : Int32} {R : RgR} {nm : Int64} {bo : Bool} {zz : T5}
theorem c88.rf : c88 T T := fun _ _ => rfl
theorem c88.go (h : c88 T T1) (h2 : c88 T1 T') : c88 T T' := fun k hk => (h2 k hk).trans (h k hk)
theorem c88.fl {a b : Int32} : c88 T (flT T a b) := fun k hk => by
  unfold flT failS
  split
  · rw [sI_ne (by omega), sI_ne (by omega)]
  · rfl
theorem c88.kn : c88 T (knS T zz) := fun k hk => by
  unfold knS
  split
  · split
    · unfold adT
      rw [sI_ne (by omega), sI_ne (by omega), sI_ne (by omega), sI_ne (by omega), sI_ne (by omega), sI_ne (by omega)]
    · rw [sI_ne (by omega)]
  · rfl
theorem c88.sr : c88 T (srS X T q) := by
  unfold srS
  split
  · exact c88.rf
  · exact c88.fl
theorem c88.wa : ∀ (m k : Nat) (T : gSt) (a : Int32), c88 T (waX X m T q k a).2 := by
  intro m
  induction m with
  | zero => intro k T a; exact c88.rf
  | succ m ih =>
    intro k T a
    rw [waX]
    split
    · exact c88.go c88.sr (ih _ _ _)
    · exact c88.rf
theorem c88.ti : c88 T (tiS X T i) := by
  unfold tiS
  repeat' split
  · exact c88.rf
  · exact c88.fl
  · exact c88.fl
theorem c88.me : ∀ (f : Nat) (T : gSt) (i : Nat), c88 T (meX X f T i).2 := by
  intro f
  induction f with
  | zero => intro T i; exact c88.rf
  | succ f ih =>
    intro T i
    rw [meX]
    repeat' split
    · exact c88.rf
    · exact c88.go (c88.go c88.ti (c88.wa _ _ _ _)) c88.kn
    · exact c88.go c88.ti (c88.wa _ _ _ _)
    · exact c88.go (ih _ _) c88.kn
    · exact ih _ _
    · exact c88.fl
    · exact c88.rf
/-- the type of a var STEP -/
theorem y_vty (hX : XO X) (hnf : 16385 ≤ nf) (hz : ∀ q, xK X q = 4 → ¬ xN X q = 0) (hw : WZ X T v g dd) (hp : tyP X 6 (i + 3)) (hwt : tyW X 6 (i + 3)) (he : tyE X 6 (i + 3) ≤ xn X) (hi : i + 3 < 80000) (hd : 60 ≤ d) : ∃ y T2, PP nf d 137 (sI T 52 2 (T.1 52 2 + 1)) [nI (i + 3), (1 : Int32)] [] = some (nI y, 0, T2) ∧ tyY T2 y ∧ FX T T2 ∧ T2.1 51 0 = T.1 51 0 ∧ ∀ it e n S, SrR X it e v g n S T → lvC T 16384 + 14 < 16384 → cn (vaM X S i).2 < 6000 → BfR (vaM X S i).2 T2 ∨ (SrR X it e v g n (vaM X S i).2 T2 ∧ TyR (RgE e S) (vaM X S i).2 T2 5 (vaM X S i).1 y ∧ TyF S (vaM X S i).2 T T2 ∧ lvC T2 16384 ≤ lvC T 16384 + 6 ∧ tV (vaM X S i).2 (vaM X S i).1) := by
  have hxn := hX.1
  have f1 : FX T (sI T 52 2 (T.1 52 2 + 1)) := FX.ta hw.1.2.1 (by omega)
  have W1 := hw.1.fx f1
  obtain ⟨y, T2, h1, h2, h3⟩ := a_type (nf := nf) hX hnf 6 1 (i + 3) d (sI T 52 2 (T.1 52 2 + 1)) (by omega) (by omega) W1.1 W1.2.2.1 W1.2.2.2.1 W1.2.1 (by omega) (by omega)
  have fx := f1.tr h3.fx
  refine ⟨y, T2, h1, h2, fx, ?_, fun it e n S hR hl hc => ?_⟩
  · rw [h3.1 51 (by omega) (by omega), sI_ne (by omega)]
  have fA : FE S (sI S 92 0 (S.1 92 0 + 1)) := FE.wr (by omega)
  have fM : FE (sI S 92 0 (S.1 92 0 + 1)) (vaM X S i).2 := FE.me _ _ _
  have gS := hR.1.2.2.1.1.1
  have cS : cn S < 6000 := (fA.tr fM).lt gS hc
  have ckA : Ck (sI S 92 0 (S.1 92 0 + 1)) := hR.1.2.2.1.1.wr (by omega) cS
  have hx := hR.xr
  have F1 : TyF S (sI S 92 0 (S.1 92 0 + 1)) T (sI T 52 2 (T.1 52 2 + 1)) := TyF.st (by rw [sI_ne (by omega)]) (fun k _ _ => by rw [sI_ne (by omega)]) (by rw [sI_ne (by omega)]) rfl rfl
  have ct1 : CtR (sI S 92 0 (S.1 92 0 + 1)) (sI T 52 2 (T.1 52 2 + 1)) := by
    obtain ⟨c1, c2, c3, c4, c5⟩ := hx.2.2.2.2.2.2.2.2.2.2
    refine ⟨by rw [sI_v, sI_v, c1], ?_, ?_, ?_, ?_⟩
    · rw [rdI, if_neg (fun q => by have := q.2; omega), sI_ne (by omega)]; exact c2
    · rw [rdI, if_neg (fun q => by have := q.2; omega), sI_ne (by omega)]; exact c3
    · rw [rdI, if_neg (fun q => by have := q.2; omega), sI_ne (by omega)]; exact c4
    · rw [rdI, if_neg (fun q => by have := q.2; omega), sI_ne (by omega)]; exact c5
  have x1 : XR (RgE e S) (slF S) X (sI S 92 0 (S.1 92 0 + 1)) (sI T 52 2 (T.1 52 2 + 1)) := hx.fx F1 fA f1 (by rw [sI_ne (by omega)]; exact hx.h0) (by rw [sI_ne (by omega)]; exact hx.h53) ckA ct1
  have el : lvC (sI T 52 2 (T.1 52 2 + 1)) 16384 = lvC T 16384 := lvC_62 (T := T) (T' := sI T 52 2 (T.1 52 2 + 1)) rfl rfl 16384
  obtain ⟨y', T2', k1, k2, k3, k4⟩ := x1.1.ty (nf := nf) (d := d) (f := 5) (i := i + 3) (dp := 1) hX hnf hz hx.2.2.2.1 hp he (by omega) (by omega) (by omega) hc (by omega)
  rw [h1] at k1
  injection k1 with k1'
  injection k1' with ey k1'
  injection k1' with _ eT
  have yl := h2.lt
  have yl' := k2.lt
  have ey := nI_inj (by omega) (by omega) ey
  subst ey eT
  rcases k4 with ⟨b1, b2, b3, b4, b5⟩ | bf
  · have ckM := ckA.me hwt hc
    have h7 : (vaM X S i).2.1 7 0 = 0 := b1.2.2.2.2.1
    have F2 := F1.tr b4
    have ct2 : CtR (vaM X S i).2 T2 := ct1.st (by rw [b2]) (fun k k1 _ => congrFun (c88.me (X := X) 6 (sI S 92 0 (S.1 92 0 + 1)) (i + 3) k k1) 0)
    have x2 := hx.fx F2 (fA.tr fM) fx h7 (by rw [b2, sI_ne (by omega)]; exact hx.h53) ckM.1 ct2
    exact Or.inr ⟨hR.ex x2 F2 (fA.tr fM) fx, b3, F2, by omega, ckM.2 h7⟩
  · exact Or.inl bf
theorem z_20 (hX : XO X) (hnf : 16385 ≤ nf) (hz : ∀ q, xK X q = 4 → ¬ xN X q = 0) (hC : isZ ta = false → CE1 nf X ta) : Zs0 nf X it (tD 20 i e' ta tb) := by
  intro T lo hi dd d a b v g v' g' ⟨p1, p2, p3, p4, p5, p6, p7, p8, p9, p10, p11⟩
  have hxn := hX.1
  rw [RcS_n] at p1
  unfold RsC at p1
  rw [if_neg (by omega), if_neg (by omega), if_neg (by omega)] at p1
  obtain ⟨q1, q2, q3⟩ := p1
  rw [if_pos rfl] at q3
  obtain ⟨r1, r2⟩ := q3
  rw [SG_n] at p4
  unfold sgN at p4
  rw [if_neg (by omega), if_neg (by omega), if_neg (by omega), if_pos rfl] at p4
  obtain ⟨s1, s2, s3⟩ := p4
  rw [Ws_n] at p5
  unfold WsN at p5
  rw [if_neg (by omega), if_neg (by omega), if_neg (by omega), if_pos rfl] at p5
  obtain ⟨w1, ev0, v20, ev, eg, w2, w3⟩ := p5
  have ev0 := ev0.symm
  have ev := ev.symm
  have eg := eg.symm
  subst ev0 ev eg
  have ge := tyE_ge (X := X) 6 (i + 3)
  have hend : tyE X 6 (i + 3) ≤ xn X := by
    by_cases z : isZ ta = true
    · rw [if_pos z] at w3; omega
    · rw [if_neg z] at w3
      obtain ⟨c, f, _⟩ := w3
      have := (Wf_le _ false _ _ f.1).1 rfl
      omega
  obtain ⟨d, rfl⟩ : ∃ g, d = g + 4 := ⟨d - 4, by omega⟩
  have zl : inb (nI lo) 4008 := nin (by omega) (by omega)
  have ekw : kwS2 (tD 20 i v ta tb) = kwT ta + 2 := rfl
  have elv : lvS2 X (tD 20 i v ta tb) = lvT X ta + 6 := rfl
  have est : ∀ S, stS X it (tD 20 i v ta tb) 0 0 0 S = vaE (vaF X ta (vaM X S i).2 (vaM X S i).1) (xN X (i + 1)) (nI (xP X (i + 1))) (nI v) (vaM X S i).1 (vaR X ta (vaM X S i).2).1 (if isZ ta = true then 0 else 1) := fun S => rfl
  obtain ⟨y, T2, h1, h2, fx2, h51', hB2⟩ := y_vty (nf := nf) (d := d + 2) hX hnf hz p7 s2 w2 hend (by omega) (by omega)
  obtain ⟨W2, fq2⟩ := p7.fx fx2
  rw [e_Steps_checkStep _ (d + 3)]
  unfold rb_Steps_checkStep
  rw [gd, if_pos zl, nc (by omega), r1, if_pos rfl, e_Steps_checkVar _ (d + 2)]
  unfold rb_Steps_checkVar
  rw [gd, if_pos zl, nc (by omega), q2, vK, gd, if_pos zl, vK, show (2 : Int32) = nI 2 from rfl, c_tally (by omega) (by omega), bis, nI_1, show nI (i + 1) + nI 2 = nI (i + 3) from (Int32.ofNat_add _ _).symm, h1, bis, nI_1]
  -- the name is in sight: nothing behind a fault counts
  have i1 : i + 1 < xn X := by omega
  by_cases z : isZ ta = true
  · rw [if_pos z] at r2
    obtain ⟨ti, k1, k2, k3, k4, k5⟩ := W2.1.2.2.2.2.2.2.1
    rw [r2.2, chk0 (nf := nf) (d := d + 1) k5 (by omega) (by omega), bis, if_pos rfl]
    have y0 : tyY T2 0 := Or.inl (by omega)
    refine wp_bi (y_v76 (nf := nf) (d := d + 2) (yx := 0) (x4 := 0) hX hnf W2 v20 i1 h2 y0 (by omega)) ?_
    intro _ _ T' ⟨z1, z2, z3⟩
    refine wp_some ⟨fx2.fz.tr z1, fq2.tr z2, fun e n S n0 hR hbd h51 hrow hn hl hc => ?_⟩
    unfold ZOk
    rw [ekw] at hn ⊢
    rw [elv] at hl ⊢
    rw [est S, if_pos z] at hc ⊢
    have eF : vaF X ta (vaM X S i).2 (vaM X S i).1 = (vaM X S i).2 := by unfold vaF; rw [if_pos z]
    rw [eF] at hc ⊢
    have cM : cn (vaM X S i).2 < 6000 := by rw [cn_vaE] at hc; exact hc
    rcases hB2 it e n S hR (by omega) cM with bf | ⟨b1, b2, b3, b4, b5⟩
    · left
      have : vaE (vaM X S i).2 (xN X (i + 1)) (nI (xP X (i + 1))) (nI v) (vaM X S i).1 (vaR X ta (vaM X S i).2).1 0 = (vaM X S i).2 := by unfold vaE; rw [if_neg bf.1]
      rw [this]
      exact bf.fz z1
    · have b2' : TyR (RgE e (vaM X S i).2) (vaM X S i).2 T2 5 (vaM X S i).1 y := by
        have fM : FE S (vaM X S i).2 := (FE.wr (by omega) : FE S (sI S 92 0 (S.1 92 0 + 1))).tr (FE.me _ _ _)
        rw [RgE_eq (by rw [fM.1 71 (by omega)]) (fM.1 73 (by omega))]
        exact b2
      have fM12 : (vaM X S i).2.1 12 = S.1 12 := ((FE.wr (by omega) : FE S (sI S 92 0 (S.1 92 0 + 1))).tr (FE.me _ _ _)).1 12 (by omega)
      rcases z3 it e n (vaM X S i).2 (vaM X S i).1 (vaR X ta (vaM X S i).2).1 0 (n0 + 1) b1 b2' b5 cM (fun q => absurd rfl q) (by rw [h51']; exact h51) (by omega) with bf | ⟨c1, c2, c3, c4, c5⟩
      · left
        rw [if_pos rfl] at bf
        exact bf
      · rw [if_pos rfl] at c1 c2 c3 c5
        refine Or.inr ⟨c1, b3.tr c2, ⟨n0 + 1, c5, by omega, ?_⟩, by omega⟩
        rw [KdS_n]
        unfold KsN
        rw [if_neg (by omega), if_neg (by omega), if_neg (by omega)]
        have A2 : AgK S (vaM X S i).2 T T2 0 (n0 + 1) := AgK.fx b3 fM12 fx2 h51 (by omega) (Nat.le_refl _)
        refine ⟨by omega, ?_, ?_⟩
        · rw [(A2.tr c3).rw (by omega) (by omega)]
          exact hrow
        · rw [if_pos rfl, if_pos z]
  · rw [if_neg z] at r2
    have zf : isZ ta = false := by simpa using z
    rw [if_neg z] at w3
    obtain ⟨c, f, fc⟩ := w3
    obtain ⟨hg, hdd⟩ := s3.resolve_left z
    obtain ⟨zz, hP, h13⟩ := ZsP.ce (d := d + 1) (lo := lo + 1) W2 (cRX.fz r2.2 fx2.fz) (by omega) p3 ⟨hg, hdd⟩ f.1 (by omega) (by omega)
    have l0 : ¬ nI (lo + 1) = (0 : Int32) := fun q => by
      have := nI_inj (a := lo + 1) (b := 0) (by omega) (by omega) q
      omega
    obtain ⟨r3, l3, T3, e3, yx, eyx, hq⟩ := (hC zf).run hnf hX hP (by omega) h13
    obtain ⟨pp1, pp2, pp3, pp4, pp5, pp6, pp7, pp8, pp9⟩ := hP
    have fx3 := hq.2.1
    obtain ⟨W3, fq3⟩ := W2.fx fx3
    have bb := x_begin (nf := nf) (d := d + 1) hX hnf W3.1.1 (pp1.fx fx3) pp3 pp6 (by omega) pp4 pp5 (by omega)
    have h2' := fx3.2.2.2.1 y h2
    obtain ⟨o, g1, g2⟩ := y_dfit (nf := nf) (d := d + 1) W3.1 hq.1 h2' bb (by omega)
    rw [r2.1, e3, bis, if_neg l0, eyx, g1, bis]
    have fx4 : FX T3 (fiS T3 yx y o (plT X ta)) := FX.fi fx3.2.2.1
    obtain ⟨W4, fq4⟩ := W3.fx fx4
    refine wp_bi (y_v76 (nf := nf) (d := d + 2) (yx := yx) (x4 := nI (lo + 1)) hX hnf W4 v20 i1 (fx4.2.2.2.1 y h2') (fx4.2.2.2.1 yx hq.1) (by omega)) ?_
    intro _ _ T' ⟨z1, z2, z3⟩
    refine wp_some ⟨((fx2.tr fx3).tr fx4).fz.tr z1, ((fq2.tr fq3).tr fq4).tr z2, fun e n S n0 hR hbd h51 hrow hn hl hc => ?_⟩
    unfold ZOk
    rw [ekw] at hn ⊢
    rw [elv] at hl ⊢
    rw [est S, if_neg z] at hc ⊢
    have eR : vaR X ta (vaM X S i).2 = chk X ta 0 0 (vaM X S i).2 := by unfold vaR; rw [if_neg z]
    have eF : vaF X ta (vaM X S i).2 (vaM X S i).1 = ftS (chk X ta 0 0 (vaM X S i).2).2.2.2 (chk X ta 0 0 (vaM X S i).2).1 (vaM X S i).1 (plT X ta) := by unfold vaF; rw [if_neg z, eR]
    rw [eF, eR] at hc ⊢
    rw [cn_vaE] at hc
    have fA : FE S (vaM X S i).2 := (FE.wr (by omega) : FE S (sI S 92 0 (S.1 92 0 + 1))).tr (FE.me _ _ _)
    have fB : FE (vaM X S i).2 (chk X ta 0 0 (vaM X S i).2).2.2.2 := chk_fe ta _ _ _
    have gS := hR.1.2.2.1.1.1
    have cB : cn (chk X ta 0 0 (vaM X S i).2).2.2.2 < 6000 := (FE.ft : FE (chk X ta 0 0 (vaM X S i).2).2.2.2 _).lt (fB.tg (fA.tg gS)) hc
    have cM : cn (vaM X S i).2 < 6000 := fB.lt (fA.tg gS) cB
    -- nothing counts behind a fault
    have bad : ∀ U, BfR U T' → ¬ U.1 7 0 = 0 → BfR (vaE U (xN X (i + 1)) (nI (xP X (i + 1))) (nI v) (vaM X S i).1 (chk X ta 0 0 (vaM X S i).2).1 1) T' := fun U hU h7 => by
      unfold vaE
      rw [if_neg h7]
      exact hU
    rcases hB2 it e n S hR (by omega) cM with bf | ⟨b1, b2, b3, b4, b5⟩
    · left
      have e1 : (chk X ta 0 0 (vaM X S i).2).2.2.2 = (vaM X S i).2 := by rw [chk_bad bf.1]; rfl
      have e2 : ftS (chk X ta 0 0 (vaM X S i).2).2.2.2 (chk X ta 0 0 (vaM X S i).2).1 (vaM X S i).1 (plT X ta) = (vaM X S i).2 := by
        rw [e1]
        exact ftS_er_bad bf.1
      rw [e2]
      exact bad _ (((bf.fx fx3).fx fx4).fz z1) bf.1
    · have h512 : T2.1 51 0 = nI (n0 + 1) := by rw [h51']; exact h51
      rcases b1.xq fx3 (hq.2.2 _ _ (vaM X S i).2 (n0 + 1) b1.xr ⟨h512, by omega, by omega, cB⟩) with bf | ⟨a1, a2, ⟨h, a3⟩, ⟨m', a4, a5, a6⟩, a7⟩
      · left
        have e2 : ftS (chk X ta 0 0 (vaM X S i).2).2.2.2 (chk X ta 0 0 (vaM X S i).2).1 (vaM X S i).1 (plT X ta) = (chk X ta 0 0 (vaM X S i).2).2.2.2 := ftS_er_bad bf.1
        rw [e2]
        exact bad _ ((bf.fx fx4).fz z1) bf.1
      · have Rm : RgE e (vaM X S i).2 = RgE e S := RgE_eq (by rw [fA.1 71 (by omega)]) (fA.1 73 (by omega))
        have Rq : RgE e (chk X ta 0 0 (vaM X S i).2).2.2.2 = RgE e (vaM X S i).2 := RgE_eq (by rw [fB.1 71 (by omega)]) (fB.1 73 (by omega))
        have t2 : TyR (RgE e (chk X ta 0 0 (vaM X S i).2).2.2.2) (chk X ta 0 0 (vaM X S i).2).2.2.2 T3 5 (vaM X S i).1 y := by
          rw [Rq, Rm]
          exact TyR.mo a2 (fun _ _ z => z) _ _ _ b2
        have tv2 : ¬ (vaM X S i).1 = -1 ∧ ¬ (vaM X S i).1 = -2 := by
          rcases b5 with w | ⟨p, w, w1, w2⟩
          · rw [w]; exact ⟨by decide, by decide⟩
          · rw [w]
            have := nIpos w1 (show p < 100000 by omega)
            exact ⟨fun q => by rw [q] at this; exact absurd this (by decide), fun q => by rw [q] at this; exact absurd this (by decide)⟩
        rcases fits_b (pl := plT X ta) a1.xr (by rw [Rq]; exact a3) t2 tv2.1 tv2.2 g2 with ⟨s4, s5⟩ | bf
        · rw [s4] at z1 z3
          rw [s5] at hc ⊢
          have tv3 : tV (chk X ta 0 0 (vaM X S i).2).2.2.2 (vaM X S i).1 := by
            rcases b5 with w | ⟨p, w, w1, w2⟩
            · exact Or.inl w
            · exact Or.inr ⟨p, w, w1, Nat.lt_of_lt_of_le w2 a2.1⟩
          rcases z3 it e n _ (vaM X S i).1 (chk X ta 0 0 (vaM X S i).2).1 h m' a1 t2 tv3 cB (fun _ => by rw [Rq]; exact a3) a4 (by omega) with bf | ⟨c1, c2, c3, c4, c5⟩
          · left
            rw [if_neg l0] at bf
            exact bf
          · rw [if_neg l0] at c1 c2 c3 c5
            refine Or.inr ⟨c1, (b3.tr a2).tr c2, ⟨m' + 1, c5.1, by omega, ?_⟩, by omega⟩
            rw [KdS_n]
            unfold KsN
            rw [if_neg (by omega), if_neg (by omega), if_neg (by omega)]
            have A2 : AgK S (vaM X S i).2 T T2 0 (n0 + 1) := AgK.fx b3 (fA.1 12 (by omega)) fx2 h51 (by omega) (Nat.le_refl _)
            have A3 : AgK (vaM X S i).2 (chk X ta 0 0 (vaM X S i).2).2.2.2 T2 T3 0 (n0 + 1) := AgK.fx a2 (fB.1 12 (by omega)) fx3 h512 (by omega) (Nat.le_refl _)
            have m1 := a6.1
            refine ⟨by omega, ?_, ?_⟩
            · rw [((A2.tr A3).tr (c3.sub (Nat.le_refl _) (by omega))).rw (by omega) (by omega)]
              exact hrow
            · rw [if_pos rfl, if_neg z, eR]
              refine ⟨m', a6.mo c3 (by omega) (Nat.le_refl _), ?_, rfl⟩
              have tl : TyR (RgE e S) _ T' 5 (vaM X S i).1 y := TyR.mo c2 (fun _ _ z => z) _ _ _ (by rw [← Rm, ← Rq]; exact t2)
              refine ⟨nI (wdC T' y), ⟨5, y, tl, rfl⟩, ?_⟩
              have sw := (hR.1.fns (b3.tr a2) (by rw [(fA.tr fB).1 71 (by omega)]) ((fA.tr fB).1 73 (by omega)) (by rw [(fA.tr fB).1 77 (by omega)]) ((fA.tr fB).1 79 (by omega)) ((fA.tr fB).1 80 (by omega))).2.2 (vn S) (Nat.le_refl _)
              have ew : wdC T' y = wdC T3 y := t2.wd c2
              rw [c5.2, ew, (fA.tr fB).evn, sw]
        · left
          exact bad _ (bf.fz z1) bf.1
end ZS7
