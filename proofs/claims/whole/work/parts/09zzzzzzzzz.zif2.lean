/-! an if STEP on both sides: the STEP -/
section ZSH
variable {S S' S1 S2 T T' T1 T2 T3 : gSt} {X : Lx} {nf d it e v g n dd v' g' k i e' u c m lo hi a b n0 y z p q r j s f yv yx yr lr N m0 c0 dd1 i2 e2 : Nat} {ta tb tr tA tB : Tr} {pl x op cc t x4 rr ys no : Int32} {R : RgR} {nm w w2 : Int64} {bo zb : Bool} {A B : StF}
theorem z_21 (hX : XO X) (hnf : 16385 ≤ nf) (hz : ∀ q, xK X q = 4 → ¬ xN X q = 0) (hA : Zb0 nf X it tA) (hB : isZ tB = false → Zb0 nf X it tB) : Zs2 nf X it (tD 21 i e' ta (tD 12 i2 e2 tA tB)) := by
  intro T lo hi dd d a b v g v' g' ⟨p1, p2, p3, p4, p5, p6, p7, p8, p9, p10, p11⟩
  have hxn := hX.1
  rw [RcS_n] at p1
  unfold RsC at p1
  rw [if_neg (by omega), if_neg (by omega), if_neg (by omega)] at p1
  obtain ⟨q1, q2, q3⟩ := p1
  rw [if_neg (by omega), if_pos rfl] at q3
  obtain ⟨r1, r2, c, rc1, rc2, r3, r4⟩ := q3
  rw [RcS_n] at r4
  unfold RsC at r4
  rw [if_pos rfl] at r4
  obtain ⟨_, c2, rc3, rc4, r5, r6, r7, r8⟩ := r4
  rw [SG_n] at p4
  unfold sgN at p4
  rw [if_neg (by omega), if_neg (by omega), if_neg (by omega), if_neg (by omega), if_pos rfl] at p4
  obtain ⟨sa, sp⟩ := p4
  rw [SG_n] at sp
  unfold sgN at sp
  rw [if_pos rfl] at sp
  obtain ⟨_, sA, sB⟩ := sp
  rw [Ws_n] at p5
  unfold WsN at p5
  rw [if_neg (by omega), if_neg (by omega), if_neg (by omega), if_neg (by omega), if_pos rfl] at p5
  obtain ⟨w1, ct, we, wp5⟩ := p5
  rw [Ws_n] at wp5
  unfold WsN at wp5
  rw [if_neg (by omega), if_neg (by omega), if_pos rfl] at wp5
  obtain ⟨_, ct2, v1, g1, wA, wB⟩ := wp5
  obtain ⟨ma1, ma2, ma3⟩ := Ws_mo _ _ _ _ _ _ _ _ wA
  have lee := (Wf_le _ false _ _ we.1).1 rfl
  have mB : v1 ≤ v' ∧ g1 ≤ g' ∧ ct2 ≤ b := by
    by_cases z : isZ tB = true
    · rw [if_pos z] at wB; omega
    · rw [if_neg z] at wB
      obtain ⟨x1, x2, x3⟩ := Ws_mo _ _ _ _ _ _ _ _ wB
      omega
  have dd19 : dd + 1 ≤ 20 := by have := sa.2; omega
  obtain ⟨d, rfl⟩ : ∃ g, d = g + 4 := ⟨d - 4, by omega⟩
  have zl : inb (nI lo) 4008 := nin (by omega) (by omega)
  obtain ⟨u, hu, huv⟩ := p7.2.1
  have v20 := p7.2.2.1
  have g8 := p7.2.2.2.2.1
  have ekw : kwS2 (tD 21 i e' ta (tD 12 i2 e2 tA tB)) = kwT ta + (kwS2 tA + kwS2 tB + 1) + 2 := rfl
  have elv : lvS2 X (tD 21 i e' ta (tD 12 i2 e2 tA tB)) = lvT X ta + (lvS2 X tA + lvS2 X tB) := rfl
  have ebd : bdT (tD 21 i e' ta (tD 12 i2 e2 tA tB)) = max (bdT tA) (bdT tB) := rfl
  have est : ∀ S, stS X it (tD 21 i e' ta (tD 12 i2 e2 tA tB)) 0 0 0 S = if (cdC X ta S).1 7 0 = 0 then prC X (stS X it tA) (stS X it tB) (isZ tB) (akY X ta (cdC X ta S)) (akN X ta (cdC X ta S)) i (cdC X ta S) else cdC X ta S := fun S => rfl
  obtain ⟨zz, hP, h13⟩ := ZsP.ce (d := d) (lo := lo + 1) p7 r3 (by omega) (by omega) sa we.1 (by omega) (by omega)
  rw [e_Steps_checkStep _ (d + 3)]
  unfold rb_Steps_checkStep
  rw [gd, if_pos zl, nc (by omega), r1, if_neg (by decide), if_pos rfl, e_Steps_checkIf _ (d + 2)]
  unfold rb_Steps_checkIf
  rw [gd, if_pos zl, nc (by omega), r2, vK]
  refine wp_bi (R := fun _ _ T' => FZ T T' ∧ FqZ T T' v' ∧ ∀ e n S n0, SrR X it e v g n S T → n + bdT (tD 21 i e' ta (tD 12 i2 e2 tA tB)) ≤ 40 → T.1 51 0 = nI (n0 + 1) → cw3 T n0 = (1, nI (xP X (tkI (tD 21 i e' ta (tD 12 i2 e2 tA tB)))), 0) → n0 + kwS2 (tD 21 i e' ta (tD 12 i2 e2 tA tB)) ≤ 6032 → lvC T 16384 + lvS2 X (tD 21 i e' ta (tD 12 i2 e2 tA tB)) + 30 < 16384 → cn (stS X it (tD 21 i e' ta (tD 12 i2 e2 tA tB)) 0 0 0 S) < 6000 → ZO2 X it e v' g' n S T (tD 21 i e' ta (tD 12 i2 e2 tA tB)) 0 0 0 n0 T') ?_ (fun r _ T' h => wp_some h)
  -- the question
  refine wp_bi (y_qst (nf := nf) (d := d) hX hnf (ce1 hX hnf hz ta) hP (by omega) h13) ?_
  intro _ _ T3 ⟨f3, hQ⟩
  obtain ⟨W3, fq3⟩ := p7.fx f3
  obtain ⟨rr4, T4, m1, m2, m3, m4⟩ := em_r (nf := nf) (d := d + 2) (T := T3) (x := 51) (pl := 0) (op := 0) W3.1.2.1 W3.1.2.2.2.2.2.1 (by omega)
  rw [m1, bis, lK]
  obtain ⟨W4, fq4⟩ := W3.fx m2
  have h110 : ∀ T5, FZ T T5 → T5.1 11 0 = 0 := fun T5 f => by
    rw [f.o (by omega) (by omega)]
    obtain ⟨_, _, _, k, _⟩ := p7.1.2.2.2.2.2.2.1
    exact k
  have z4 : FZ T T4 := f3.fz.tr m2.fz
  have h684 : T4.1 68 0 = nI u := by rw [m2.o (by omega), f3.o (by omega)]; exact hu
  rw [c_alone (nf := nf) (d := d + 2) (n := u) hX hnf W4.1.1 (h110 _ z4) h684 (by omega) (cRX.fz r3 z4) sa.1 (by omega) (by omega) (by omega) we.1 (by omega), bis, c_knw (vaI_v (by omega)) (by omega), bis]
  obtain ⟨W7, z47, fq7⟩ := W4.kn (x := vaI X T4 u ta)
  have z7 : FZ T (knT T4 (vaI X T4 u ta)) := z4.tr z47
  rw [gd, if_pos zl, z7.o (k := 17) (by omega) (by omega), r5, nI_1]
  refine wp_bi (hA _ c c2 (dd + 1) (d + 2) ct ct2 v g v1 g1 ⟨r6.fz z7, by omega, by omega, sA, wA, by omega, W7.up (by omega), dd19, by omega, by omega, by omega⟩) ?_
  intro _ _ T9 ⟨z79, fq9, c68, zA, evA⟩
  rw [lK, stK]
  have W9 : WZ X T9 v1 g1 dd := W7.fzq z79 fq9 (by omega) ma3 (by omega)
  have h689 : T9.1 68 0 = nI u := by rw [c68, knT_o.1]; exact h684
  obtain ⟨W11, z11, fq11⟩ := W9.fl (T' := sJ T9 77 0 (T4.2 77 0)) rfl (fun p j hp => by rw [rdJ, if_neg (fun q => hp q.1)])
  have zz11 : FZ T (sJ T9 77 0 (T4.2 77 0)) := (z7.tr z79).tr z11
  rw [c_anull (nf := nf) (d := d + 2) (n := u) hX hnf W11.1.1 (h110 _ zz11) h689 (by omega) (cRX.fz r3 zz11) sa.1 (by omega) (by omega) (by omega) we.1 (by omega), bis, c_knw (vnI_v (by omega) _) (by omega), bis]
  obtain ⟨W13, z13, fq13⟩ := W11.kn (x := vnI X (sJ T9 77 0 (T4.2 77 0)) u ta)
  generalize e13 : knT (sJ T9 77 0 (T4.2 77 0)) (vnI X (sJ T9 77 0 (T4.2 77 0)) u ta) = T13 at W13 z13 fq13 ⊢
  have z9_13 : FZ T9 T13 := z11.tr z13
  have z4_13 : FZ T4 T13 := (z47.tr z79).tr z9_13
  have zT13 : FZ T T13 := z4.tr z4_13
  have fqT13 : FqZ T T13 v1 := ((((fq3.tr fq4).tr fq7).tr fq9).tr fq11).tr fq13
  -- where the jump lies
  have b4 : rr4 = -1 ∨ ∃ m, rr4 = nI m ∧ m < 100000 ∧ ∀ c, T.1 51 0 = nI c → c ≤ 6032 → c ≤ m := by
    rcases m4 with w | ⟨n4, w1, w2, w3, w4⟩
    · exact Or.inl w
    · exact Or.inr ⟨n4, w1, by omega, fun c hc hc2 => f3.fz.up hc hc2 w3 (by omega)⟩
  have am4 : ∀ T5, FZ T4 T5 → (∃ c, T5.1 51 0 = nI c ∧ c ≤ 6032) → rr4 = -1 ∨ ∃ m c, rr4 = nI m ∧ T5.1 51 0 = nI c ∧ m < c ∧ c ≤ 6032 := fun T5 f ⟨c5, h5, h5'⟩ => by
    rcases m4 with w | ⟨n4, w1, w2, w3, w4⟩
    · exact Or.inl w
    · have := f.up w4 (by omega) h5 (by omega)
      exact Or.inr ⟨n4, c5, w1, h5, by omega, h5'⟩
  -- the spec and the code up to there
  have half : ∀ e n S n0, SrR X it e v g n S T → n + max (bdT tA) (bdT tB) ≤ 40 → T.1 51 0 = nI (n0 + 1) → cw3 T n0 = (1, nI (xP X i), 0) → n0 + (kwT ta + (kwS2 tA + kwS2 tB + 1) + 2) ≤ 6032 → lvC T 16384 + (lvT X ta + (lvS2 X tA + lvS2 X tB)) + 30 < 16384 → cn (cdC X ta S) < 6000 → ((cdC X ta S).1 7 0 = 0 → cn (stS X it tA 0 0 0 (kwS (cdC X ta S) (akY X ta (cdC X ta S)))) < 6000) → BfR (cdC X ta S) T3 ∨ ((cdC X ta S).1 7 0 = 0 ∧ (BfR (stS X it tA 0 0 0 (kwS (cdC X ta S) (akY X ta (cdC X ta S)))) T9 ∨ (stS X it tA 0 0 0 (kwS (cdC X ta S) (akY X ta (cdC X ta S)))).1 7 0 = 0 ∧ ∃ P, P = prE (stS X it tA) (akY X ta (cdC X ta S)) (akN X ta (cdC X ta S)) (cdC X ta S) ∧ SrR X it e v1 g1 n P T13 ∧ TyF S P T T13 ∧ FwR e P T13 ((stS X it tA 0 0 0 (kwS (cdC X ta S) (akY X ta (cdC X ta S)))).1 81 0) ((stS X it tA 0 0 0 (kwS (cdC X ta S) (akY X ta (cdC X ta S)))).1 82 0) ((stS X it tA 0 0 0 (kwS (cdC X ta S) (akY X ta (cdC X ta S)))).1 75 0) ((stS X it tA 0 0 0 (kwS (cdC X ta S) (akY X ta (cdC X ta S)))).1 83 0) (T9.2 77 0) ∧ ((stS X it tA 0 0 0 (kwS (cdC X ta S) (akY X ta (cdC X ta S)))).1 83 0 = 0 ∨ (stS X it tA 0 0 0 (kwS (cdC X ta S) (akY X ta (cdC X ta S)))).1 83 0 = 1) ∧ FV S P ∧ vn P = vn S ∧ lvC T13 16384 ≤ lvC T 16384 + lvT X ta + lvS2 X tA ∧ ∃ n4 q, rr4 = nI n4 ∧ n0 + 1 ≤ n4 ∧ n4 ≤ n0 + 1 + kwT ta ∧ T13.1 51 0 = nI q ∧ n4 + 1 ≤ q ∧ q ≤ n4 + 1 + kwS2 tA ∧ KxC e P T13 S (chk X ta 0 0 S).2.2.1 (n0 + 1) n4 ∧ KdS X it e P T13 tA 0 0 (kwS (cdC X ta S) (akY X ta (cdC X ta S))) (n4 + 1) q ∧ T13.1 48 n4 = 51 ∧ T13.1 50 n4 = 0 ∧ cw3 T13 n0 = (1, nI (xP X i), 0))) := by
    intro e n S n0 hR hbd h51 hrow hn hl hc hcA
    have gS := hR.1.2.2.1.1.1
    have fC : FS (chk X ta 0 0 S).2.2.2 (cdC X ta S) := FS.cd2
    have cC : cn (chk X ta 0 0 S).2.2.2 < 6000 := fC.lt ((chk_fe ta 0 0 S).tg gS) hc
    rcases hQ it e v g n S (n0 + 1) hR ⟨h51, by omega, by omega, cC⟩ with bf | ⟨ec, a1, a2, ⟨n4, a3, a4, a5⟩, a6⟩
    · exact Or.inl bf
    right
    have h7 := a1.1.2.2.2.1
    refine ⟨h7, ?_⟩
    have hcA := hcA h7
    have fvC : FV S (cdC X ta S) := by rw [ec]; exact FV.fe (chk_fe ta 0 0 S)
    generalize eC : cdC X ta S = C at *
    have hV := a1.1.2.2.2.2.2.2.2.2.1
    have evC : vn C = u := by
      obtain ⟨w20, s77, t68⟩ := hV.vs
      have : T3.1 68 0 = nI u := by rw [f3.o (by omega)]; exact hu
      exact nI_inj (by omega) (by omega) (by rw [← t68, this])
    -- the jump
    have n4l : n4 < 6032 := by omega
    obtain ⟨eT4, er4⟩ := m3 n4 a3 n4l
    obtain ⟨b1, b2, b3⟩ := a1.em (a := 51) (b := 0) (z := 0) a3 n4l
    rw [← eT4] at b1 b2 b3
    have h514 : T4.1 51 0 = nI (n4 + 1) := by rw [eT4]; exact em_51
    have row4 : cw3 T4 n4 = (51, 0, 0) := by rw [eT4]; exact em_row
    -- what is known on the first way
    have kY := b1.kY ta
    rw [evC] at kY
    have F7 : TyF C (kwS C (akY X ta C)) T4 (knT T4 (vaI X T4 u ta)) := TyF.st (by rw [(FO.kw : FO C (kwS C (akY X ta C))).1 65 (by unfold fO; omega)]) (fun k _ _ => (FO.kw : FO C (kwS C (akY X ta C))).1 k (by unfold fO; omega)) ((FO.kw : FO C (kwS C (akY X ta C))).1 15 (by unfold fO; omega)) (by funext j; exact knT_o.2 62 j (by omega)) (knT_o.2 63 0 (by omega))
    have lv7 : lvC (knT T4 (vaI X T4 u ta)) 16384 = lvC T4 16384 := lvC_62 (by funext j; exact knT_o.2 62 j (by omega)) (by funext j; exact knT_o.2 63 j (by omega)) 16384
    rcases zA e n _ (n4 + 1) kY (by have := Nat.le_max_left (bdT tA) (bdT tB); omega) (by omega) (by rw [knT_o.1]; exact h514) (by omega) (by omega) hcA with bf | ⟨d1, d2, ⟨q, d3, d4, d5, d6⟩, d7, d8⟩
    · exact Or.inl bf
    right
    generalize eA : stS X it tA 0 0 0 (kwS C (akY X ta C)) = S2 at *
    refine ⟨d1.1.2.2.2.1, _, rfl, ?_⟩
    have fvK : FV C (kwS C (akY X ta C)) := FV.fo FO.kw
    have fv2 : FV C S2 := fvK.on d8
    have ev2 : vn S2 = vn C := by
      rw [← eA, evA]
      unfold vn
      rw [(FO.kw : FO C (kwS C (akY X ta C))).1 77 (by unfold fO; omega)]
    have F9 : TyF C S2 T4 T9 := F7.tr d2
    have hV4 := b1.1.2.2.2.2.2.2.2.2.1
    have hV9 := d1.1.2.2.2.2.2.2.2.2.1
    have fw := b1.2.rs hV4 hV9 F9 fv2 ev2 (RgE.fv fv2)
    obtain ⟨k1, k2⟩ := d1.rs fw b1.1.2.2.1.2.2.1
    have fvR : FV S2 (rsS S2 (C.1 81 0) (C.1 82 0) (C.1 75 0) (C.1 83 0)) := FV.fo FO.rs
    have evR : vn (rsS S2 (C.1 81 0) (C.1 82 0) (C.1 75 0) (C.1 83 0)) = vn C := by
      rw [← ev2]
      unfold vn
      rw [(FO.rs : FO S2 (rsS S2 (C.1 81 0) (C.1 82 0) (C.1 75 0) (C.1 83 0))).1 77 (by unfold fO; omega)]
    have aN : akN X ta (rsS S2 (C.1 81 0) (C.1 82 0) (C.1 75 0) (C.1 83 0)) = akN X ta C := akN_fv b1 (fv2.on fvR) evR (F9.tr k2) ta
    have kN := k1.kN ta (19 - dd) sa.1
    rw [aN, evR, evC] at kN
    have eT13 : knT (sJ T9 77 0 (flw T4)) (vnI X (sJ T9 77 0 (flw T4)) u ta) = T13 := e13
    rw [eT13] at kN
    have FR : TyF (rsS S2 (C.1 81 0) (C.1 82 0) (C.1 75 0) (C.1 83 0)) (kwS (rsS S2 (C.1 81 0) (C.1 82 0) (C.1 75 0) (C.1 83 0)) (akN X ta C)) (sJ T9 77 0 (flw T4)) T13 := by
      have fo : FO (rsS S2 (C.1 81 0) (C.1 82 0) (C.1 75 0) (C.1 83 0)) (kwS (rsS S2 (C.1 81 0) (C.1 82 0) (C.1 75 0) (C.1 83 0)) (akN X ta C)) := FO.kw
      rw [← eT13]
      exact TyF.st (by rw [fo.1 65 (by unfold fO; omega)]) (fun k _ _ => fo.1 k (by unfold fO; omega)) (fo.1 15 (by unfold fO; omega)) (by funext j; exact knT_o.2 62 j (by omega)) (knT_o.2 63 0 (by omega))
    have eP : prE (stS X it tA) (akY X ta C) (akN X ta C) C = kwS (rsS S2 (C.1 81 0) (C.1 82 0) (C.1 75 0) (C.1 83 0)) (akN X ta C) := by
      unfold prE
      rw [eA]
    have fvP : FV S2 (kwS (rsS S2 (C.1 81 0) (C.1 82 0) (C.1 75 0) (C.1 83 0)) (akN X ta C)) := fvR.on (FV.fo FO.kw)
    have evP : vn (kwS (rsS S2 (C.1 81 0) (C.1 82 0) (C.1 75 0) (C.1 83 0)) (akN X ta C)) = vn C := by
      rw [← evR]
      unfold vn
      rw [(FO.kw : FO (rsS S2 (C.1 81 0) (C.1 82 0) (C.1 75 0) (C.1 83 0)) (kwS (rsS S2 (C.1 81 0) (C.1 82 0) (C.1 75 0) (C.1 83 0)) (akN X ta C))).1 77 (by unfold fO; omega)]
    rw [eP]
    have F2P := k2.tr FR
    have FSP := ((a2.tr b2).tr F9).tr F2P
    have evS : vn S = vn C := by
      have := fvC.2.2.2.2.1
      obtain ⟨w20, s77, t68⟩ := hR.1.2.2.2.2.2.2.2.2.1.vs
      have : vn S = u := nI_inj (by omega) (by omega) (by rw [← t68, ← hu])
      omega
    have A4 : AgK C C T3 T4 0 n4 := AgK.fz b2 rfl m2.fz a3 (by omega) (Nat.le_refl _)
    have A9 : AgK C S2 T4 T9 0 (n4 + 1) := AgK.fz F9 fv2.2.2.2.2.2.2 (z47.tr z79) h514 (by omega) (Nat.le_refl _)
    have o13 : ∀ g q, 48 ≤ g → g ≤ 51 → T13.1 g q = T9.1 g q := fun g q _ _ => by rw [← eT13, knT_o.1]; rfl
    have A13 : ∀ q, AgK S2 (kwS (rsS S2 (C.1 81 0) (C.1 82 0) (C.1 75 0) (C.1 83 0)) (akN X ta C)) T9 T13 0 q := fun q => ⟨F2P, fvP.2.2.2.2.2.2, fun k _ _ => by rw [← eT13, knT_o.1]; rfl, fun g j g1 g2 _ _ => o13 g j g1 (by omega)⟩
    refine ⟨kN, FSP, d1.2.rs hV9 kN.1.2.2.2.2.2.2.2.2.1 F2P fvP (by rw [evP, ev2]) (RgE.fv fvP), d1.1.2.2.1.2.2.1, (fvC.on fv2).on fvP, by rw [evP, evS], ?_, n4, q, er4, ?_, by omega, by rw [o13 51 0 (by omega) (by omega)]; exact d3, d4, d5, a5.mo ((A4.tr (A9.sub (Nat.le_refl _) (by omega))).tr (A13 n4)) (by omega) (Nat.le_refl _), KdS.mo _ _ _ _ _ _ ((A13 q).sub (by omega) (Nat.le_refl _)) d6, ?_, ?_, ?_⟩
    · have : lvC T13 16384 = lvC T9 16384 := lvC_62 (by rw [← eT13]; funext j; rw [knT_o.2 62 j (by omega), rdJ, if_neg (fun q => by have := q.1; omega)]) (by rw [← eT13]; funext j; rw [knT_o.2 63 j (by omega), rdJ, if_neg (fun q => by have := q.1; omega)]) 16384
      omega
    · exact f3.fz.up h51 (by omega) a3 (by omega)
    · have := (A9.tr (A13 (n4 + 1))).rw (q := n4) (by omega) (by omega)
      rw [row4] at this
      exact congrArg (·.1) this
    · have := (A9.tr (A13 (n4 + 1))).rw (q := n4) (by omega) (by omega)
      rw [row4] at this
      exact congrArg (·.2.2) this
    · have n0l := f3.fz.up h51 (by omega) a3 (by omega)
      have A3 : AgK S C T T3 0 (n0 + 1) := AgK.fz a2 fvC.2.2.2.2.2.2 f3.fz h51 (by omega) (Nat.le_refl _)
      rw [((A3.tr (A4.sub (Nat.le_refl _) (by omega))).tr ((A9.tr (A13 (n4 + 1))).sub (Nat.le_refl _) (by omega))).rw (by omega) (by omega)]
      exact hrow
  -- cn, from the end
  have cns : ∀ S, SrR X it 0 v g 0 S T ∨ True → Tg S → cn (stS X it (tD 21 i e' ta (tD 12 i2 e2 tA tB)) 0 0 0 S) < 6000 → cn (cdC X ta S) < 6000 ∧ ((cdC X ta S).1 7 0 = 0 → cn (stS X it tA 0 0 0 (kwS (cdC X ta S) (akY X ta (cdC X ta S)))) < 6000) := fun S _ hg hc => by
    rw [est] at hc
    have f1 : FS S (cdC X ta S) := FS.cd
    have gC := f1.tg hg
    by_cases c7 : (cdC X ta S).1 7 0 = 0
    · rw [if_pos c7] at hc
      have fA : FS (cdC X ta S) (stS X it tA 0 0 0 (kwS (cdC X ta S) (akY X ta (cdC X ta S)))) := FS.kw.tr (st_fs tA 0 0 0 _)
      have hA' := (pr_fs (X := X) (A := stS X it tA) (zb := isZ tB) (ys := akY X ta (cdC X ta S)) (no := akN X ta (cdC X ta S)) (i := i) (S := cdC X ta S) (st_fs (X := X) (it := it) tB)).lt (fA.tg gC) hc
      exact ⟨fA.lt gC hA', fun _ => hA'⟩
    · rw [if_neg c7] at hc
      exact ⟨hc, fun w => absurd w c7⟩
  have ei : tkI (tD 21 i e' ta (tD 12 i2 e2 tA tB)) = i := rfl
  rw [gd, if_pos zl, zT13.o (k := 18) (by omega) (by omega), r7]
  by_cases ce : emB tB = true
  · obtain ⟨ev', eg', ek0, el0, eid⟩ := em_id (X := X) (it := it) (a := ct2) (b := b) (v := v1) (g := g1) (v' := v') (g' := g') (dd := dd + 1) ce sB (by
      by_cases z : isZ tB = true
      · rw [if_pos z] at wB ⊢; exact wB
      · rw [if_neg z] at wB ⊢; exact wB)
    subst ev' eg'
    rw [if_pos ce, if_pos rfl, c_am (am4 _ z4_13 W13.1.2.2.2.2.2.1) (by omega), bis]
    have z16 : FZ T (aiT T13 rr4) := zT13.am p7.1.2.2.2.2.2.1 b4
    have fq16 : FqZ T (aiT T13 rr4) v' := fqT13.am zT13.2.2.1
    have W16 : WZ X (aiT T13 rr4) v' g' dd := p7.fzq z16 fq16 (by omega) (by omega) (by omega)
    refine wp_mono (y_mt (nf := nf) (d := d + 2) (w := T9.2 77 0) (i := i) hX W16 (by rw [z16.o (by omega) (by omega)]; exact q2) (by omega) (by omega) (by omega)) ?_
    intro _ _ T' ⟨zm, fqm, hm⟩
    refine ⟨z16.tr zm, fq16.tr fqm, fun e n S n0 hR hbd h51 hrow hn hl hc => ?_⟩
    obtain ⟨hc1, hc2⟩ := cns S (Or.inr trivial) hR.1.2.2.1.1.1 hc
    unfold ZO2
    rw [ekw] at hn ⊢
    rw [elv] at hl ⊢
    rw [ebd] at hbd
    rw [ei] at hrow
    rw [est] at hc ⊢
    rcases half e n S n0 hR hbd h51 hrow hn hl hc1 hc2 with bf | ⟨h7, hh⟩
    · left
      rw [if_neg bf.1]
      exact (((bf.fx m2).fz z4_13).am).fz zm
    rw [if_pos h7]
    rcases hh with bf | ⟨h72, P, eP, s1, s2, s3, s4, s5, s6, s7, n4, q, t1, t2, t3, t4, t5, t6, t7, t8, t9, t10, t11⟩
    · left
      unfold prC
      dsimp only
      rw [if_neg bf.1]
      exact ((bf.fz z9_13).am).fz zm
    have ePr : prC X (stS X it tA) (stS X it tB) (isZ tB) (akY X ta (cdC X ta S)) (akN X ta (cdC X ta S)) i (cdC X ta S) = mtS P ((stS X it tA 0 0 0 (kwS (cdC X ta S) (akY X ta (cdC X ta S)))).1 81 0) ((stS X it tA 0 0 0 (kwS (cdC X ta S) (akY X ta (cdC X ta S)))).1 82 0) ((stS X it tA 0 0 0 (kwS (cdC X ta S) (akY X ta (cdC X ta S)))).1 75 0) ((stS X it tA 0 0 0 (kwS (cdC X ta S) (akY X ta (cdC X ta S)))).1 83 0) (nI (xP X i)) := by
      unfold prC
      dsimp only
      rw [if_pos h72]
      have : kwS (rsS (stS X it tA 0 0 0 (kwS (cdC X ta S) (akY X ta (cdC X ta S)))) ((cdC X ta S).1 81 0) ((cdC X ta S).1 82 0) ((cdC X ta S).1 75 0) ((cdC X ta S).1 83 0)) (akN X ta (cdC X ta S)) = P := eP.symm
      rw [this, eid P, if_pos s1.1.2.2.2.1]
    rw [ePr]
    obtain ⟨a1, a2⟩ := s1.am (rr := rr4)
    have fw16 := s3.mo s1.1.2.2.2.2.2.2.2.2.1 a2 rfl rfl rfl (fun u => by rw [am_o (by omega)])
    rcases hm it e n P _ _ _ _ a1 fw16 s4 with bf | ⟨k1, k2, k3, k4⟩
    · exact Or.inl bf
    · have fvM : FV P (mtS P ((stS X it tA 0 0 0 (kwS (cdC X ta S) (akY X ta (cdC X ta S)))).1 81 0) ((stS X it tA 0 0 0 (kwS (cdC X ta S) (akY X ta (cdC X ta S)))).1 82 0) ((stS X it tA 0 0 0 (kwS (cdC X ta S) (akY X ta (cdC X ta S)))).1 75 0) ((stS X it tA 0 0 0 (kwS (cdC X ta S) (akY X ta (cdC X ta S)))).1 83 0) (nI (xP X i))) := FV.fo FO.mt
      have o16 : ∀ g q, 48 ≤ g → g ≤ 51 → ¬ g = 49 → T'.1 g q = T13.1 g q := fun g q _ _ h49 => by rw [k3, am_o h49]
      have A0 : ∀ y z, (z ≤ n4 ∨ n4 + 1 ≤ y) → AgK P (mtS P ((stS X it tA 0 0 0 (kwS (cdC X ta S) (akY X ta (cdC X ta S)))).1 81 0) ((stS X it tA 0 0 0 (kwS (cdC X ta S) (akY X ta (cdC X ta S)))).1 82 0) ((stS X it tA 0 0 0 (kwS (cdC X ta S) (akY X ta (cdC X ta S)))).1 75 0) ((stS X it tA 0 0 0 (kwS (cdC X ta S) (akY X ta (cdC X ta S)))).1 83 0) (nI (xP X i))) T13 T' y z := fun y z hyz => ⟨a2.tr k2, fvM.2.2.2.2.2.2, fun k _ _ => by rw [k3, am_o (by omega)], fun g j g1 g2 j1 j2 => by
        by_cases c49 : g = 49
        · subst c49
          rw [k3, am_49 t1 (by omega), if_neg (by omega)]
        · exact o16 g j g1 (by omega) c49⟩
      refine Or.inr ⟨k1, s2.tr (a2.tr k2), ⟨q, by rw [o16 51 0 (by omega) (by omega) (by omega)]; exact t4, by omega, by omega, ?_⟩, ?_, s5.on fvM⟩
      · rw [KdS_n]
        unfold KsN
        rw [if_neg (by omega), if_neg (by omega), if_neg (by omega)]
        refine ⟨by omega, ?_, ?_⟩
        · rw [(A0 0 n4 (Or.inl (Nat.le_refl _))).rw (by omega) (by omega)]
          exact t11
        rw [if_neg (by omega), if_pos rfl]
        refine ⟨n4, t7.mo (A0 0 n4 (Or.inl (Nat.le_refl _))) (by omega) (Nat.le_refl _), by omega, by rw [o16 48 n4 (by omega) (by omega) (by omega)]; exact t9, by rw [o16 50 n4 (by omega) (by omega) (by omega)]; exact t10, ?_⟩
        rw [KdS_n]
        unfold KsN
        rw [if_neg (by omega), if_neg (by omega), if_pos rfl]
        refine ⟨q, t5, Nat.le_refl _, KdS.mo _ _ _ _ _ _ (A0 (n4 + 1) q (Or.inr (Nat.le_refl _))) t8, ?_⟩
        rw [if_pos ce]
        refine ⟨rfl, ?_⟩
        rw [k3, am_49 t1 (by omega), if_pos rfl]
        exact t4
      · have : lvC (aiT T13 rr4) 16384 = lvC T13 16384 := lvC_62 (by rw [am_2]) (by rw [am_2]) 16384
        omega
  · have zB : isZ tB = false := by
      cases hh : isZ tB with
      | false => rfl
      | true =>
        exfalso
        apply ce
        unfold isZ at hh
        split at hh
        · rfl
        · cases hh
    have zB' : ¬ isZ tB = true := by rw [zB]; decide
    rw [if_neg zB'] at wB
    have sB' := sB.resolve_left zB'
    rw [if_neg ce, if_neg (fun w => by
      have := nI_inj (a := c2) (b := 0) (by omega) (by omega) w
      omega)]
    obtain ⟨rr17, T17, j1, j2, j3, j4⟩ := em_r (nf := nf) (d := d + 2) (T := T13) (x := 50) (pl := 0) (op := 0) W13.1.2.1 W13.1.2.2.2.2.2.1 (by omega)
    rw [j1, bis]
    obtain ⟨W17, fq17⟩ := W13.fx j2
    have z4_17 : FZ T4 T17 := z4_13.tr j2.fz
    rw [c_am (am4 _ z4_17 W17.1.2.2.2.2.2.1) (by omega), bis]
    have z18 : FZ T (aiT T17 rr4) := (zT13.tr j2.fz).am p7.1.2.2.2.2.2.1 b4
    have fq18 : FqZ T (aiT T17 rr4) v1 := (fqT13.tr fq17).am j2.2.2.1
    have W18 : WZ X (aiT T17 rr4) v1 g1 dd := p7.fzq z18 fq18 (by omega) (by omega) (by omega)
    rw [gd, if_pos zl, z18.o (k := 18) (by omega) (by omega), r7]
    refine wp_bi (hB zB _ c2 hi (dd + 1) (d + 2) (ct2 + 1) b v1 g1 v' g' ⟨r8.fz z18, by omega, by omega, sB', wB, by omega, W18.up (by omega), dd19, by omega, by omega, by omega⟩) ?_
    intro _ _ T20 ⟨z20, fq20, c6820, zBB, evB⟩
    have zT20 : FZ T T20 := z18.tr z20
    have fqT20 : FqZ T T20 v' := fq18.tr fq20
    have W20 : WZ X T20 v' g' dd := p7.fzq zT20 fqT20 (by omega) (by omega) (by omega)
    have am17 : rr17 = -1 ∨ ∃ m c, rr17 = nI m ∧ T20.1 51 0 = nI c ∧ m < c ∧ c ≤ 6032 := by
      obtain ⟨c5, h5, h5'⟩ := W20.1.2.2.2.2.2.1
      rcases j4 with w | ⟨n5, w1, w2, w3, w4⟩
      · exact Or.inl w
      · have := z20.up (m := n5 + 1) (by rw [am_o (by omega)]; exact w4) (by omega) h5 (by omega)
        exact Or.inr ⟨n5, c5, w1, h5, by omega, h5'⟩
    have b17 : rr17 = -1 ∨ ∃ m, rr17 = nI m ∧ m < 100000 ∧ ∀ c, T.1 51 0 = nI c → c ≤ 6032 → c ≤ m := by
      rcases j4 with w | ⟨n5, w1, w2, w3, w4⟩
      · exact Or.inl w
      · exact Or.inr ⟨n5, w1, by omega, fun c hc hc2 => zT13.up hc hc2 w3 (by omega)⟩
    rw [c_am am17 (by omega), bis]
    have z21 : FZ T (aiT T20 rr17) := zT20.am p7.1.2.2.2.2.2.1 b17
    have fq21 : FqZ T (aiT T20 rr17) v' := fqT20.am zT20.2.2.1
    have W21 : WZ X (aiT T20 rr17) v' g' dd := p7.fzq z21 fq21 (by omega) (by omega) (by omega)
    refine wp_mono (y_mt (nf := nf) (d := d + 2) (w := T9.2 77 0) (i := i) hX W21 (by rw [z21.o (by omega) (by omega)]; exact q2) (by omega) (by omega) (by omega)) ?_
    intro _ _ T' ⟨zm, fqm, hm⟩
    refine ⟨z21.tr zm, fq21.tr fqm, fun e n S n0 hR hbd h51 hrow hn hl hc => ?_⟩
    obtain ⟨hc1, hc2⟩ := cns S (Or.inr trivial) hR.1.2.2.1.1.1 hc
    unfold ZO2
    rw [ekw] at hn ⊢
    rw [elv] at hl ⊢
    rw [ebd] at hbd
    rw [ei] at hrow
    rw [est] at hc ⊢
    rcases half e n S n0 hR hbd h51 hrow hn hl hc1 hc2 with bf | ⟨h7, hh⟩
    · left
      rw [if_neg bf.1]
      exact ((((((bf.fx m2).fz z4_13).fx j2).am).fz z20).am).fz zm
    rw [if_pos h7] at hc ⊢
    rcases hh with bf | ⟨h72, P, eP, s1, s2, s3, s4, s5, s6, s7, n4, q, t1, t2, t3, t4, t5, t6, t7, t8, t9, t10, t11⟩
    · left
      unfold prC
      dsimp only
      rw [if_neg bf.1]
      exact (((((bf.fz z9_13).fx j2).am).fz z20).am).fz zm
    have ePr : prC X (stS X it tA) (stS X it tB) (isZ tB) (akY X ta (cdC X ta S)) (akN X ta (cdC X ta S)) i (cdC X ta S) = if (stS X it tB 0 0 0 P).1 7 0 = 0 then mtS (stS X it tB 0 0 0 P) ((stS X it tA 0 0 0 (kwS (cdC X ta S) (akY X ta (cdC X ta S)))).1 81 0) ((stS X it tA 0 0 0 (kwS (cdC X ta S) (akY X ta (cdC X ta S)))).1 82 0) ((stS X it tA 0 0 0 (kwS (cdC X ta S) (akY X ta (cdC X ta S)))).1 75 0) ((stS X it tA 0 0 0 (kwS (cdC X ta S) (akY X ta (cdC X ta S)))).1 83 0) (nI (xP X i)) else stS X it tB 0 0 0 P := by
      unfold prC
      dsimp only
      rw [if_pos h72]
      have : kwS (rsS (stS X it tA 0 0 0 (kwS (cdC X ta S) (akY X ta (cdC X ta S)))) ((cdC X ta S).1 81 0) ((cdC X ta S).1 82 0) ((cdC X ta S).1 75 0) ((cdC X ta S).1 83 0)) (akN X ta (cdC X ta S)) = P := eP.symm
      rw [this, if_neg zB']
    rw [ePr] at hc ⊢
    have hcB : cn (stS X it tB 0 0 0 P) < 6000 := by
      have gP := s1.1.2.2.1.1.1
      split at hc
      · exact (FS.mt : FS (stS X it tB 0 0 0 P) _).lt ((st_fs tB 0 0 0 P).tg gP) hc
      · exact hc
    -- the jump over the second BLOCK
    have ql : q < 6032 := by omega
    obtain ⟨eT17, er17⟩ := j3 q t4 ql
    obtain ⟨b1, b2, b3⟩ := s1.em (a := 50) (b := 0) (z := 0) t4 ql
    rw [← eT17] at b1 b2 b3
    have h5117 : T17.1 51 0 = nI (q + 1) := by rw [eT17]; exact em_51
    have row17 : cw3 T17 q = (50, 0, 0) := by rw [eT17]; exact em_row
    obtain ⟨a1, a2⟩ := b1.am (rr := rr4)
    have lv18 : lvC (aiT T17 rr4) 16384 = lvC T17 16384 := lvC_62 (by rw [am_2]) (by rw [am_2]) 16384
    rcases zBB e n P (q + 1) a1 (by have := Nat.le_max_right (bdT tA) (bdT tB); omega) (by omega) (by rw [am_o (by omega)]; exact h5117) (by omega) (by omega) hcB with bf | ⟨d1, d2, ⟨n5, d3, d4, d5, d6⟩, d7, d8⟩
    · left
      rw [if_neg bf.1]
      exact (bf.am).fz zm
    rw [if_pos d1.1.2.2.2.1]
    generalize eS4 : stS X it tB 0 0 0 P = S4 at *
    have F20 : TyF P S4 T13 T20 := (b2.tr a2).tr d2
    have ev4 : vn S4 = vn P := by rw [← eS4, evB]
    have fw20 := s3.rs s1.1.2.2.2.2.2.2.2.2.1 d1.1.2.2.2.2.2.2.2.2.1 F20 d8 ev4 (RgE.fv d8)
    obtain ⟨c1, c2'⟩ := d1.am (rr := rr17)
    have fw21 := fw20.mo d1.1.2.2.2.2.2.2.2.2.1 c2' rfl rfl rfl (fun u => by rw [am_o (by omega)])
    rcases hm it e n S4 _ _ _ _ c1 fw21 s4 with bf | ⟨k1, k2, k3, k4⟩
    · exact Or.inl bf
    generalize eM : mtS S4 ((stS X it tA 0 0 0 (kwS (cdC X ta S) (akY X ta (cdC X ta S)))).1 81 0) ((stS X it tA 0 0 0 (kwS (cdC X ta S) (akY X ta (cdC X ta S)))).1 82 0) ((stS X it tA 0 0 0 (kwS (cdC X ta S) (akY X ta (cdC X ta S)))).1 75 0) ((stS X it tA 0 0 0 (kwS (cdC X ta S) (akY X ta (cdC X ta S)))).1 83 0) (nI (xP X i)) = M at *
    have fvM : FV S4 M := by rw [← eM]; exact FV.fo FO.mt
    have FM : TyF S4 M T20 T' := c2'.tr k2
    -- rows
    have oE : ∀ g j, 48 ≤ g → g ≤ 51 → (¬ g = 49 ∨ ¬ j = q) → T'.1 g j = T20.1 g j := fun g j _ _ hh => by
      rw [k3]
      by_cases c49 : g = 49
      · subst c49
        rw [am_49 er17 (by omega), if_neg (by omega)]
      · rw [am_o c49]
    have o20 : ∀ g j, 48 ≤ g → g ≤ 50 → j < q + 1 → T20.1 g j = (aiT T17 rr4).1 g j := fun g j g1 g2 hj => by
      obtain ⟨c', _, _, _, h4⟩ := z20.2.2.2.2.2.1 (q + 1) (by rw [am_o (by omega)]; exact h5117) (by omega)
      exact h4 g j g1 g2 hj
    have o18 : ∀ g j, 48 ≤ g → g ≤ 50 → (¬ g = 49 ∨ ¬ j = n4) → (aiT T17 rr4).1 g j = T17.1 g j := fun g j _ _ hh => by
      by_cases c49 : g = 49
      · subst c49
        rw [am_49 t1 (by omega), if_neg (by omega)]
      · rw [am_o c49]
    have o17 : ∀ g j, 48 ≤ g → g ≤ 50 → j < q → T17.1 g j = T13.1 g j := fun g j g1 g2 hj => by
      obtain ⟨c', _, _, _, h4⟩ := j2.2.2.2.2.2.1 q t4 (by omega)
      exact h4 g j g1 g2 hj
    have oA : ∀ g j, 48 ≤ g → g ≤ 50 → j < q → (¬ g = 49 ∨ ¬ j = n4) → T'.1 g j = T13.1 g j := fun g j g1 g2 hj hh => by
      rw [oE g j g1 (by omega) (Or.inr (by omega)), o20 g j g1 g2 (by omega), o18 g j g1 g2 hh, o17 g j g1 g2 hj]
    have o4 : ∀ k, (41 ≤ k ∧ k ≠ 42) → k ≤ 45 → T'.1 k = T13.1 k := fun k _ _ => by
      rw [k3, am_o (by omega), z20.o (by omega) (by omega), am_o (by omega), j2.o (by omega)]
    have A0 : ∀ y z, (z ≤ n4 ∨ n4 + 1 ≤ y) → z ≤ q → AgK P M T13 T' y z := fun y z hyz hzq => ⟨F20.tr FM, (d8.on fvM).2.2.2.2.2.2, o4, fun g j g1 g2 j1 j2 => oA g j g1 g2 (by omega) (by omega)⟩
    have A20 : AgK S4 M T20 T' (q + 1) n5 := ⟨FM, fvM.2.2.2.2.2.2, fun k _ _ => by rw [k3, am_o (by omega)], fun g j g1 g2 j1 j2 => oE g j g1 (by omega) (Or.inr (by omega))⟩
    refine Or.inr ⟨k1, (s2.tr F20).tr FM, ⟨n5, by rw [oE 51 0 (by omega) (by omega) (Or.inl (by omega))]; exact d3, by omega, by omega, ?_⟩, ?_, (s5.on d8).on fvM⟩
    · rw [KdS_n]
      unfold KsN
      rw [if_neg (by omega), if_neg (by omega), if_neg (by omega)]
      refine ⟨by omega, ?_, ?_⟩
      · rw [(A0 0 n4 (Or.inl (Nat.le_refl _)) (by omega)).rw (by omega) (by omega)]
        exact t11
      rw [if_neg (by omega), if_pos rfl]
      refine ⟨n4, t7.mo (A0 0 n4 (Or.inl (Nat.le_refl _)) (by omega)) (by omega) (Nat.le_refl _), by omega, by rw [oA 48 n4 (by omega) (by omega) (by omega) (Or.inl (by omega))]; exact t9, by rw [oA 50 n4 (by omega) (by omega) (by omega) (Or.inl (by omega))]; exact t10, ?_⟩
      rw [KdS_n]
      unfold KsN
      rw [if_neg (by omega), if_neg (by omega), if_pos rfl]
      refine ⟨q, t5, by omega, KdS.mo _ _ _ _ _ _ (A0 (n4 + 1) q (Or.inr (Nat.le_refl _)) (Nat.le_refl _)) t8, ?_⟩
      rw [if_neg ce]
      refine ⟨?_, ?_, d4, ?_⟩
      · have r48 : T'.1 48 q = 50 := by
          rw [oE 48 q (by omega) (by omega) (Or.inl (by omega)), o20 48 q (by omega) (by omega) (by omega), o18 48 q (by omega) (by omega) (Or.inl (by omega))]
          exact congrArg (·.1) row17
        have r50 : T'.1 50 q = 0 := by
          rw [oE 50 q (by omega) (by omega) (Or.inl (by omega)), o20 50 q (by omega) (by omega) (by omega), o18 50 q (by omega) (by omega) (Or.inl (by omega))]
          exact congrArg (·.2.2) row17
        have r49 : T'.1 49 q = nI n5 := by
          rw [k3, am_49 er17 (by omega), if_pos rfl]
          exact d3
        unfold cw3
        rw [r48, r49, r50]
      · rw [oE 49 n4 (by omega) (by omega) (Or.inr (by omega)), o20 49 n4 (by omega) (by omega) (by omega), am_49 t1 (by omega), if_pos rfl]
        exact h5117
      · have := KdS.mo _ _ _ _ _ _ A20 d6
        rw [← eP]
        exact this
    · have : lvC (aiT T20 rr17) 16384 = lvC T20 16384 := lvC_62 (by rw [am_2]) (by rw [am_2]) 16384
      omega
end ZSH
