/-! a while STEP on both sides -/
section ZSI
variable {S S' S1 S2 T T' T1 T2 T3 : gSt} {X : Lx} {nf d it e v g n dd v' g' k i e' u c m lo hi a b n0 y z p q r j s f yv yx yr lr N m0 c0 dd1 i2 e2 : Nat} {ta tb tr tA tB : Tr} {pl x op cc t x4 rr ys no : Int32} {R : RgR} {nm w w2 : Int64} {bo zb : Bool} {A B : StF}
theorem c_cnt (hd : 1 ≤ d) : PP nf d 50 T [] [] = some (T.1 51 0, 0, T) := by
  obtain ⟨d, rfl⟩ : ∃ g, d = g + 1 := ⟨d - 1, by omega⟩
  rw [e_Code_count]
  rfl
/-- VARS are no longer known -/
theorem SrR.fg (h : SrR X it e v g n S T) (hg : SG X tb dd 2) : SrR X it e v g n (whO X tb S) (sJ T 77 0 (fgW (flw T) (gvK X T (vn S) tb 0))) ∧ TyF S (whO X tb S) T (sJ T 77 0 (fgW (flw T) (gvK X T (vn S) tb 0))) ∧ FV S (whO X tb S) ∧ vn (whO X tb S) = vn S := by
  have hV := h.1.2.2.2.2.2.2.2.2.1
  have v20 := hV.vs.1
  have h83 := h.1.2.2.1.2.2.1
  have o : ∀ k, k ≠ 82 → (whO X tb S).1 k = S.1 k := fun k hk => by
    unfold whO
    split
    · rfl
    · exact sI_ne hk
  have e82 : (whO X tb S).1 82 0 = if S.1 83 0 = 0 then S.1 82 0 else S.1 82 0 &&& (gvA X tb S 0 ^^^ (-1)) := by
    unfold whO
    by_cases c : S.1 83 0 = 0
    · rw [if_pos c, if_pos c]
    · rw [if_neg c, if_neg c, sI_v]
  have e2 : (whO X tb S).2 = S.2 := by
    unfold whO
    split <;> rfl
  obtain ⟨a1, a2, a3, a4, a5⟩ := h.1.fo (S' := whO X tb S) (T' := sJ T 77 0 (fgW (flw T) (gvK X T (vn S) tb 0))) (fun k hk => o k (by omega)) e2 (by rw [o 83 (by omega)]; exact h83) rfl (fun p j hp => by rw [rdJ, if_neg (fun z => hp z.1)])
  have z0 : agB S 0 0 := fun u s _ _ _ => by rw [fi_0, fi_0]
  have ag := (gv_bits (X := X) hV tb dd 2 0 0 hg z0).1 (by omega)
  have hi := gvK_hi (X := X) (T := T) (n := vn S) v20 tb 0 (fun j _ _ => fi_0)
  refine ⟨⟨a1, ?_⟩, a4, FV.fo ⟨fun k hk => o k (by unfold fO at hk; omega), e2⟩, by unfold vn; rw [o 77 (by omega)]⟩
  rw [flw_w, o 81 (by omega), e82, o 75 (by omega), o 83 (by omega)]
  exact (h.2.forget v20 hi ag).mo hV a4 a2 (by rw [o 77 (by omega)]) (o 79 (by omega)) (fun _ => rfl)
theorem z_22 (hX : XO X) (hnf : 16385 ≤ nf) (hz : ∀ q, xK X q = 4 → ¬ xN X q = 0) (hB : Zb0 nf X it tb) : Zs2 nf X it (tD 22 i e' ta tb) := by
  intro T lo hi dd d a b v g v' g' ⟨p1, p2, p3, p4, p5, p6, p7, p8, p9, p10, p11⟩
  have hxn := hX.1
  rw [RcS_n] at p1
  unfold RsC at p1
  rw [if_neg (by omega), if_neg (by omega), if_neg (by omega)] at p1
  obtain ⟨q1, q2, q3⟩ := p1
  rw [if_neg (by omega), if_neg (by omega), if_pos rfl] at q3
  obtain ⟨⟨r1, _⟩, r2, c, rc1, rc2, r3, r5, r6⟩ := q3
  rw [SG_n] at p4
  unfold sgN at p4
  rw [if_neg (by omega), if_neg (by omega), if_neg (by omega), if_neg (by omega), if_neg (by omega), if_pos rfl] at p4
  obtain ⟨sa, sB⟩ := p4
  rw [Ws_n] at p5
  unfold WsN at p5
  rw [if_neg (by omega), if_neg (by omega), if_neg (by omega), if_neg (by omega), if_neg (by omega), if_pos rfl] at p5
  obtain ⟨w1, ct, we, wB⟩ := p5
  obtain ⟨ma1, ma2, ma3⟩ := Ws_mo _ _ _ _ _ _ _ _ wB
  have lee := (Wf_le _ false _ _ we.1).1 rfl
  have dd19 : dd + 1 ≤ 20 := by have := sa.2; omega
  obtain ⟨d, rfl⟩ : ∃ g, d = g + 4 := ⟨d - 4, by omega⟩
  have zl : inb (nI lo) 4008 := nin (by omega) (by omega)
  obtain ⟨u, hu, huv⟩ := p7.2.1
  have v20 := p7.2.2.1
  have g8 := p7.2.2.2.2.1
  have ekw : kwS2 (tD 22 i e' ta tb) = kwT ta + kwS2 tb + 3 := rfl
  have elv : lvS2 X (tD 22 i e' ta tb) = lvT X ta + lvS2 X tb := rfl
  have ebd : bdT (tD 22 i e' ta tb) = bdT tb := rfl
  have est : ∀ S, stS X it (tD 22 i e' ta tb) 0 0 0 S = whC X (stS X it tb) ta tb i S := fun S => rfl
  have h110 : ∀ T5, FZ T T5 → T5.1 11 0 = 0 := fun T5 f => by
    rw [f.o (by omega) (by omega)]
    obtain ⟨_, _, _, k, _⟩ := p7.1.2.2.2.2.2.2.1
    exact k
  rw [e_Steps_checkStep _ (d + 3)]
  unfold rb_Steps_checkStep
  rw [gd, if_pos zl, nc (by omega), r1, if_neg (by decide), if_neg (by decide), if_neg (by decide), if_pos rfl, e_Steps_checkWhile _ (d + 2)]
  unfold rb_Steps_checkWhile
  rw [gd, if_pos zl, nc (by omega), r2, vK, c_cnt (by omega), bis, vK, gd, if_pos zl, r5, nI_1]
  refine wp_bi (R := fun _ _ T' => FZ T T' ∧ FqZ T T' v' ∧ ∀ e n S n0, SrR X it e v g n S T → n + bdT (tD 22 i e' ta tb) ≤ 40 → T.1 51 0 = nI (n0 + 1) → cw3 T n0 = (1, nI (xP X (tkI (tD 22 i e' ta tb))), 0) → n0 + kwS2 (tD 22 i e' ta tb) ≤ 6032 → lvC T 16384 + lvS2 X (tD 22 i e' ta tb) + 30 < 16384 → cn (stS X it (tD 22 i e' ta tb) 0 0 0 S) < 6000 → ZO2 X it e v' g' n S T (tD 22 i e' ta tb) 0 0 0 n0 T') ?_ (fun r _ T' h => wp_some h)
  -- what the BLOCK gives something to
  rw [(c_gv (nf := nf) hX hnf (ndT tb + 1) tb (by omega)).1 T c hi (dd + 1) (d + 2) u ct b v g v' g' r6 (by omega) p3 sB wB p6 p7.1.1 (h110 T (FZ.rf p7.1.2.1)) hu (by omega) (by omega), bis, c_fgt (by omega), bis]
  obtain ⟨W7, z7, fq7⟩ := p7.fl (T' := sJ T 77 0 (fgW (flw T) (gvK X T u tb 0))) rfl (fun p j hp => by rw [rdJ, if_neg (fun q => hp q.1)])
  have rel7 : ∀ e n S, SrR X it e v g n S T → SrR X it e v g n (whO X tb S) (sJ T 77 0 (fgW (flw T) (gvK X T u tb 0))) ∧ TyF S (whO X tb S) T (sJ T 77 0 (fgW (flw T) (gvK X T u tb 0))) ∧ FV S (whO X tb S) ∧ vn (whO X tb S) = vn S := fun e n S hR => by
    have := hR.fg sB
    obtain ⟨w20, s77, t68⟩ := hR.1.2.2.2.2.2.2.2.2.1.vs
    have eu : vn S = u := nI_inj (by omega) (by omega) (by rw [← t68, ← hu])
    rw [eu] at this ⊢
    exact this
  have t7 : (sJ T 77 0 (fgW (flw T) (gvK X T u tb 0))).1 = T.1 := rfl
  have lv7 : lvC (sJ T 77 0 (fgW (flw T) (gvK X T u tb 0))) 16384 = lvC T 16384 := lvC_62 (T := T) (T' := sJ T 77 0 (fgW (flw T) (gvK X T u tb 0))) rfl rfl 16384
  generalize e7 : sJ T 77 0 (fgW (flw T) (gvK X T u tb 0)) = T7 at W7 z7 fq7 rel7 t7 lv7 ⊢
  -- the question
  obtain ⟨zz, hP, h13⟩ := ZsP.ce (d := d) (lo := lo + 1) W7 (cRX.fz r3 z7) (by omega) (by omega) sa we.1 (by omega) (by omega)
  refine wp_bi (y_qst (nf := nf) (d := d) hX hnf (ce1 hX hnf hz ta) hP (by omega) h13) ?_
  intro _ _ T8 ⟨f8, hQ⟩
  obtain ⟨W8, fq8⟩ := W7.fx f8
  obtain ⟨rr9, T9, m1, m2, m3, m4⟩ := em_r (nf := nf) (d := d + 2) (T := T8) (x := 51) (pl := 0) (op := 0) W8.1.2.1 W8.1.2.2.2.2.2.1 (by omega)
  rw [m1, bis, lK]
  obtain ⟨W9, fq9⟩ := W8.fx m2
  have z9 : FZ T T9 := (z7.tr f8.fz).tr m2.fz
  have h689 : T9.1 68 0 = nI u := by rw [m2.o (by omega), f8.o (by omega), t7]; exact hu
  rw [c_alone (nf := nf) (d := d + 2) (n := u) hX hnf W9.1.1 (h110 _ z9) h689 (by omega) (cRX.fz r3 z9) sa.1 (by omega) (by omega) (by omega) we.1 (by omega), bis, c_knw (vaI_v (by omega)) (by omega), bis]
  obtain ⟨W12, z12, fq12⟩ := W9.kn (x := vaI X T9 u ta)
  have zT12 : FZ T (knT T9 (vaI X T9 u ta)) := z9.tr z12
  rw [gd, if_pos zl, zT12.o (k := 17) (by omega) (by omega), r5]
  refine wp_bi (hB _ c hi (dd + 1) (d + 2) ct b v g v' g' ⟨r6.fz zT12, by omega, p3, sB, wB, p6, W12.up (by omega), dd19, by omega, p10, p11⟩) ?_
  intro _ _ T14 ⟨z14, fq14, c68, zB, evB⟩
  have W14 : WZ X T14 v' g' dd := W12.fzq z14 fq14 (by omega) ma3 (by omega)
  have zT14 : FZ T T14 := zT12.tr z14
  have z9_14 : FZ T9 T14 := z12.tr z14
  have fqT14 : FqZ T T14 v' := (((fq7.tr fq8).tr fq9).tr fq12).tr fq14
  have h6814 : T14.1 68 0 = nI u := by rw [c68, knT_o.1]; exact h689
  rw [c_isReached (by omega), bis]
  -- the rest
  have b9 : rr9 = -1 ∨ ∃ m, rr9 = nI m ∧ m < 100000 ∧ ∀ c, T.1 51 0 = nI c → c ≤ 6032 → c ≤ m := by
    rcases m4 with w | ⟨n4, w1, w2, w3, w4⟩
    · exact Or.inl w
    · exact Or.inr ⟨n4, w1, by omega, fun c hc hc2 => (z7.tr f8.fz).up hc hc2 w3 (by omega)⟩
  have rest : ∀ y0 : Int32, (y0 = 0 ∨ y0 = 1) → (y0 = 0 ↔ fb (flw T14) 52 = true ∧ ¬ samB (flw T14) (T9.2 77 0) 40 52) → wp (rj_Steps_checkWhile_133 (PP nf (d + 2)) nf T14 (nI lo) (nI (lo + 1)) (T.1 51 0 - 1) rr9 (T9.2 77 0) y0) (fun _ _ T' => FZ T T' ∧ FqZ T T' v' ∧ ∀ e n S n0, SrR X it e v g n S T → n + bdT (tD 22 i e' ta tb) ≤ 40 → T.1 51 0 = nI (n0 + 1) → cw3 T n0 = (1, nI (xP X (tkI (tD 22 i e' ta tb))), 0) → n0 + kwS2 (tD 22 i e' ta tb) ≤ 6032 → lvC T 16384 + lvS2 X (tD 22 i e' ta tb) + 30 < 16384 → cn (stS X it (tD 22 i e' ta tb) 0 0 0 S) < 6000 → ZO2 X it e v' g' n S T (tD 22 i e' ta tb) 0 0 0 n0 T') := by
    intro y0 hy0 hiff
    unfold rj_Steps_checkWhile_133
    rw [gd, if_pos zl, nc (by omega), zT14.o (k := 12) (by omega) (by omega), q2, c_start hX W14.1.1 (by omega), bis, c_dem (by omega), bis]
    have f21 : FX T14 (if y0 = 0 then ntS T14 8 (nI (xP X i)) else T14) := FX.dm z14.2.2.1
    generalize e21 : (if y0 = 0 then ntS T14 8 (nI (xP X i)) else T14) = T21 at f21 ⊢
    obtain ⟨W21, fq21⟩ := W14.fx f21
    obtain ⟨r22, T22, j1, j2, j3⟩ := a_emit (nf := nf) (d := d + 2) (T := T21) (x := 50) (y := T.1 51 0 - 1) (z := 0) W21.1.2.1 W21.1.2.2.2.2.2.1 (by omega)
    rw [j1, bis]
    obtain ⟨W22, fq22⟩ := W21.fx j2
    have zT22 : FZ T T22 := (zT14.tr f21.fz).tr j2.fz
    have z9_22 : FZ T9 T22 := (z9_14.tr f21.fz).tr j2.fz
    have fqT22 : FqZ T T22 v' := (fqT14.tr fq21).tr fq22
    have am9 : rr9 = -1 ∨ ∃ m c, rr9 = nI m ∧ T22.1 51 0 = nI c ∧ m < c ∧ c ≤ 6032 := by
      obtain ⟨c5, h5, h5'⟩ := W22.1.2.2.2.2.2.1
      rcases m4 with w | ⟨n4, w1, w2, w3, w4⟩
      · exact Or.inl w
      · have := z9_22.up w4 (by omega) h5 (by omega)
        exact Or.inr ⟨n4, c5, w1, h5, by omega, h5'⟩
    rw [c_am am9 (by omega), bis, stK]
    have z23 : FZ T (aiT T22 rr9) := zT22.am p7.1.2.2.2.2.2.1 b9
    have fq23 : FqZ T (aiT T22 rr9) v' := fqT22.am zT22.2.2.1
    have W23 : WZ X (aiT T22 rr9) v' g' dd := p7.fzq z23 fq23 (by omega) ma3 (by omega)
    obtain ⟨W24, z24, fq24⟩ := W23.fl (T' := sJ (aiT T22 rr9) 77 0 (T9.2 77 0)) rfl (fun p j hp => by rw [rdJ, if_neg (fun q => hp q.1)])
    have zT24 : FZ T (sJ (aiT T22 rr9) 77 0 (T9.2 77 0)) := z23.tr z24
    have h6824 : (sJ (aiT T22 rr9) 77 0 (T9.2 77 0)).1 68 0 = nI u := by
      show (aiT T22 rr9).1 68 0 = _
      rw [am_o (by omega), j2.o (by omega), f21.o (by omega)]
      exact h6814
    rw [c_anull (nf := nf) (d := d + 2) (n := u) hX hnf W24.1.1 (h110 _ zT24) h6824 (by omega) (cRX.fz r3 zT24) sa.1 (by omega) (by omega) (by omega) we.1 (by omega), bis, c_knw (vnI_v (by omega) _) (by omega), bis]
    obtain ⟨W26, z26, fq26⟩ := W24.kn (x := vnI X (sJ (aiT T22 rr9) 77 0 (T9.2 77 0)) u ta)
    generalize e26 : knT (sJ (aiT T22 rr9) 77 0 (T9.2 77 0)) (vnI X (sJ (aiT T22 rr9) 77 0 (T9.2 77 0)) u ta) = T26 at W26 z26 fq26 ⊢
    have z23_26 : FZ (aiT T22 rr9) T26 := z24.tr z26
    refine wp_some ⟨z23.tr z23_26, (fq23.tr fq24).tr fq26, fun e n S n0 hR hbd h51 hrow hn hl hc => ?_⟩
    have ei : tkI (tD 22 i e' ta tb) = i := rfl
    unfold ZO2
    rw [ekw] at hn ⊢
    rw [elv] at hl ⊢
    rw [ebd] at hbd
    rw [ei] at hrow
    rw [est] at hc ⊢
    obtain ⟨g1, g2, g3, g4⟩ := rel7 e n S hR
    -- cn, from the end
    have eW : whC X (stS X it tb) ta tb i S = if (cdC X ta (whO X tb S)).1 7 0 = 0 then kwS (rsS (if (stS X it tb 0 0 0 (kwS (cdC X ta (whO X tb S)) (akY X ta (cdC X ta (whO X tb S))))).1 7 0 = 0 ∧ ¬ (stS X it tb 0 0 0 (kwS (cdC X ta (whO X tb S)) (akY X ta (cdC X ta (whO X tb S))))).1 83 0 = 0 ∧ ¬ (stS X it tb 0 0 0 (kwS (cdC X ta (whO X tb S)) (akY X ta (cdC X ta (whO X tb S))))).1 75 0 = (cdC X ta (whO X tb S)).1 75 0 then flT (stS X it tb 0 0 0 (kwS (cdC X ta (whO X tb S)) (akY X ta (cdC X ta (whO X tb S))))) 8 (nI (xP X i)) else stS X it tb 0 0 0 (kwS (cdC X ta (whO X tb S)) (akY X ta (cdC X ta (whO X tb S))))) ((cdC X ta (whO X tb S)).1 81 0) ((cdC X ta (whO X tb S)).1 82 0) ((cdC X ta (whO X tb S)).1 75 0) ((cdC X ta (whO X tb S)).1 83 0)) (akN X ta (cdC X ta (whO X tb S))) else cdC X ta (whO X tb S) := rfl
    rw [eW] at hc ⊢
    have gS := g1.1.2.2.1.1.1
    have fC0 : FS (whO X tb S) (cdC X ta (whO X tb S)) := FS.cd
    have gC := fC0.tg gS
    have fB0 : FS (cdC X ta (whO X tb S)) (stS X it tb 0 0 0 (kwS (cdC X ta (whO X tb S)) (akY X ta (cdC X ta (whO X tb S))))) := FS.kw.tr (st_fs tb 0 0 0 _)
    have hc1 : cn (cdC X ta (whO X tb S)) < 6000 ∧ ((cdC X ta (whO X tb S)).1 7 0 = 0 → cn (stS X it tb 0 0 0 (kwS (cdC X ta (whO X tb S)) (akY X ta (cdC X ta (whO X tb S))))) < 6000) := by
      by_cases c7 : (cdC X ta (whO X tb S)).1 7 0 = 0
      · rw [if_pos c7] at hc
        have f2 : FS (stS X it tb 0 0 0 (kwS (cdC X ta (whO X tb S)) (akY X ta (cdC X ta (whO X tb S))))) (if (stS X it tb 0 0 0 (kwS (cdC X ta (whO X tb S)) (akY X ta (cdC X ta (whO X tb S))))).1 7 0 = 0 ∧ ¬ (stS X it tb 0 0 0 (kwS (cdC X ta (whO X tb S)) (akY X ta (cdC X ta (whO X tb S))))).1 83 0 = 0 ∧ ¬ (stS X it tb 0 0 0 (kwS (cdC X ta (whO X tb S)) (akY X ta (cdC X ta (whO X tb S))))).1 75 0 = (cdC X ta (whO X tb S)).1 75 0 then flT (stS X it tb 0 0 0 (kwS (cdC X ta (whO X tb S)) (akY X ta (cdC X ta (whO X tb S))))) 8 (nI (xP X i)) else stS X it tb 0 0 0 (kwS (cdC X ta (whO X tb S)) (akY X ta (cdC X ta (whO X tb S))))) := by
          split
          · exact FS.fe (FE.fl (by decide))
          · exact FS.rf
        have := (f2.tr (FS.rs.tr FS.kw)).lt (fB0.tg gC) hc
        exact ⟨fB0.lt gC this, fun _ => this⟩
      · rw [if_neg c7] at hc
        exact ⟨hc, fun w => absurd w c7⟩
    obtain ⟨hcC, hcB⟩ := hc1
    have cC : cn (chk X ta 0 0 (whO X tb S)).2.2.2 < 6000 := (FS.cd2 : FS (chk X ta 0 0 (whO X tb S)).2.2.2 (cdC X ta (whO X tb S))).lt ((chk_fe ta 0 0 _).tg gS) hcC
    have h517 : T7.1 51 0 = nI (n0 + 1) := by rw [t7]; exact h51
    rcases hQ it e v g n (whO X tb S) (n0 + 1) g1 ⟨h517, by omega, by omega, cC⟩ with bf | ⟨ec, a1, a2, ⟨n4, a3, a4, a5⟩, a6⟩
    · left
      rw [if_neg bf.1]
      exact ((bf.fx m2).fz z9_22).am.fz z23_26
    have h7 := a1.1.2.2.2.1
    rw [if_pos h7]
    have hcB := hcB h7
    have fvC : FV S (cdC X ta (whO X tb S)) := g3.on (by rw [ec]; exact FV.fe (chk_fe ta 0 0 _))
    generalize eC : cdC X ta (whO X tb S) = C at *
    have hV := a1.1.2.2.2.2.2.2.2.2.1
    have evC : vn C = u := by
      obtain ⟨w20, s77, t68⟩ := hV.vs
      have : T8.1 68 0 = nI u := by rw [f8.o (by omega), t7]; exact hu
      exact nI_inj (by omega) (by omega) (by rw [← t68, this])
    have n4l : n4 < 6032 := by omega
    obtain ⟨eT9, er9⟩ := m3 n4 a3 n4l
    obtain ⟨b1, b2, b3⟩ := a1.em (a := 51) (b := 0) (z := 0) a3 n4l
    rw [← eT9] at b1 b2 b3
    have h519 : T9.1 51 0 = nI (n4 + 1) := by rw [eT9]; exact em_51
    have row9 : cw3 T9 n4 = (51, 0, 0) := by rw [eT9]; exact em_row
    have kY := b1.kY ta
    rw [evC] at kY
    have fo1 : FO C (kwS C (akY X ta C)) := FO.kw
    have F12 : TyF C (kwS C (akY X ta C)) T9 (knT T9 (vaI X T9 u ta)) := TyF.st (by rw [fo1.1 65 (by unfold fO; omega)]) (fun k _ _ => fo1.1 k (by unfold fO; omega)) (fo1.1 15 (by unfold fO; omega)) (by funext j; exact knT_o.2 62 j (by omega)) (knT_o.2 63 0 (by omega))
    have lv12 : lvC (knT T9 (vaI X T9 u ta)) 16384 = lvC T9 16384 := lvC_62 (by funext j; exact knT_o.2 62 j (by omega)) (by funext j; exact knT_o.2 63 j (by omega)) 16384
    rcases zB e n _ (n4 + 1) kY (by omega) (by omega) (by rw [knT_o.1]; exact h519) (by omega) (by omega) hcB with bf | ⟨d1, d2, ⟨q, d3, d4, d5, d6⟩, d7, d8⟩
    · left
      have o7 : (kwS (rsS (stS X it tb 0 0 0 (kwS C (akY X ta C))) (C.1 81 0) (C.1 82 0) (C.1 75 0) (C.1 83 0)) (akN X ta C)).1 7 = (stS X it tb 0 0 0 (kwS C (akY X ta C))).1 7 := by
        unfold kwS rsS
        split
        · rw [sI_ne (by omega), sI_ne (by omega), sI_ne (by omega), sI_ne (by omega)]
        · rw [sI_ne (by omega), sI_ne (by omega), sI_ne (by omega), sI_ne (by omega), sI_ne (by omega)]
      have o8 : (kwS (rsS (stS X it tb 0 0 0 (kwS C (akY X ta C))) (C.1 81 0) (C.1 82 0) (C.1 75 0) (C.1 83 0)) (akN X ta C)).1 8 = (stS X it tb 0 0 0 (kwS C (akY X ta C))).1 8 := by
        unfold kwS rsS
        split
        · rw [sI_ne (by omega), sI_ne (by omega), sI_ne (by omega), sI_ne (by omega)]
        · rw [sI_ne (by omega), sI_ne (by omega), sI_ne (by omega), sI_ne (by omega), sI_ne (by omega)]
      rw [if_neg (fun w => bf.1 w.1)]
      have bf2 : BfR (kwS (rsS (stS X it tb 0 0 0 (kwS C (akY X ta C))) (C.1 81 0) (C.1 82 0) (C.1 75 0) (C.1 83 0)) (akN X ta C)) T14 := by
        unfold BfR
        rw [o7, o8]
        exact bf
      exact ((bf2.fx f21).fx j2).am.fz z23_26
    generalize eA : stS X it tb 0 0 0 (kwS C (akY X ta C)) = S2 at *
    have fvK : FV C (kwS C (akY X ta C)) := FV.fo FO.kw
    have fv2 : FV C S2 := fvK.on d8
    have ev2 : vn S2 = vn C := by
      rw [← eA, evB]
      unfold vn
      rw [fo1.1 77 (by unfold fO; omega)]
    have F14 : TyF C S2 T9 T14 := F12.tr d2
    have hV9 := b1.1.2.2.2.2.2.2.2.2.1
    have hV14 := d1.1.2.2.2.2.2.2.2.2.1
    have fw := b1.2.rs hV9 hV14 F14 fv2 ev2 (RgE.fv fv2)
    have sm := fw.same d1.2
    have q52 : fb (flw T14) 52 = true ↔ ¬ S2.1 83 0 = 0 := by
      have := d1.2.2.2.2.1.1
      cases hq : fb (flw T14) 52 with
      | true => exact ⟨(fun _ w => by rw [this.mp w] at hq; cases hq), fun _ => rfl⟩
      | false => exact ⟨(fun w => by cases w), fun w => absurd (this.mpr hq) w⟩
    have cond : (S2.1 7 0 = 0 ∧ ¬ S2.1 83 0 = 0 ∧ ¬ S2.1 75 0 = C.1 75 0) ↔ y0 = 0 := by
      rw [hiff, q52]
      constructor
      · intro w
        exact ⟨w.2.1, fun z => w.2.2 (sm.mpr (fun n n1 n2 => (z n n1 n2).symm))⟩
      · intro w
        exact ⟨d1.1.2.2.2.1, w.1, fun z => w.2 (fun n n1 n2 => (sm.mp z n n1 n2).symm)⟩
    by_cases cy : y0 = 0
    · left
      rw [if_pos (cond.mpr cy)]
      rw [if_pos cy] at e21
      have bf := bf_nt (S := S2) (T := T14) (p := nI (xP X i)) (a := 8) d1.1.2.2.2.1 d1.1.2.2.2.2.1 (by decide)
      rw [e21] at bf
      have o7 : ∀ k, (k = 7 ∨ k = 8) → (kwS (rsS (flT S2 8 (nI (xP X i))) (C.1 81 0) (C.1 82 0) (C.1 75 0) (C.1 83 0)) (akN X ta C)).1 k = (flT S2 8 (nI (xP X i))).1 k := fun k hk => by
        unfold kwS rsS
        split
        · rw [sI_ne (by omega), sI_ne (by omega), sI_ne (by omega), sI_ne (by omega)]
        · rw [sI_ne (by omega), sI_ne (by omega), sI_ne (by omega), sI_ne (by omega), sI_ne (by omega)]
      have bf2 : BfR (kwS (rsS (flT S2 8 (nI (xP X i))) (C.1 81 0) (C.1 82 0) (C.1 75 0) (C.1 83 0)) (akN X ta C)) T21 := by
        unfold BfR
        rw [o7 7 (Or.inl rfl), o7 8 (Or.inr rfl)]
        exact bf
      exact (bf2.fx j2).am.fz z23_26
    right
    rw [if_neg (fun w => cy (cond.mp w))]
    rw [if_neg cy] at e21
    subst e21
    -- the jump back, the jump out
    have ql : q < 6032 := by omega
    have hn0 : T.1 51 0 - 1 = nI n0 := by rw [h51]; exact nI_sub
    have eT22 := j3 q d3 ql
    rw [hn0] at eT22
    obtain ⟨c1, c2', c3⟩ := d1.em (a := 50) (b := nI n0) (z := 0) d3 ql
    rw [← eT22] at c1 c2' c3
    have h5122 : T22.1 51 0 = nI (q + 1) := by rw [eT22]; exact em_51
    have row22 : cw3 T22 q = (50, nI n0, 0) := by rw [eT22]; exact em_row
    obtain ⟨k1, k2⟩ := c1.am (rr := rr9)
    have hV22 := c1.1.2.2.2.2.2.2.2.2.1
    have fw22 := (fw.mo hV14 c2' rfl rfl rfl (fun u => by rw [j2.o (by omega)])).mo hV22 k2 rfl rfl rfl (fun u => by rw [am_o (by omega)])
    obtain ⟨l1, l2⟩ := k1.rs fw22 b1.1.2.2.1.2.2.1
    have fvR : FV S2 (rsS S2 (C.1 81 0) (C.1 82 0) (C.1 75 0) (C.1 83 0)) := FV.fo FO.rs
    have evR : vn (rsS S2 (C.1 81 0) (C.1 82 0) (C.1 75 0) (C.1 83 0)) = vn C := by
      rw [← ev2]
      unfold vn
      rw [(FO.rs : FO S2 (rsS S2 (C.1 81 0) (C.1 82 0) (C.1 75 0) (C.1 83 0))).1 77 (by unfold fO; omega)]
    have F23 := (F14.tr c2').tr k2
    have aN : akN X ta (rsS S2 (C.1 81 0) (C.1 82 0) (C.1 75 0) (C.1 83 0)) = akN X ta C := akN_fv b1 (fv2.on fvR) evR (F23.tr l2) ta
    have kN := l1.kN ta (19 - dd) sa.1
    rw [aN, evR, evC] at kN
    have eT26 : knT (sJ (aiT T22 rr9) 77 0 (flw T9)) (vnI X (sJ (aiT T22 rr9) 77 0 (flw T9)) u ta) = T26 := e26
    rw [eT26] at kN
    have fo2 : FO (rsS S2 (C.1 81 0) (C.1 82 0) (C.1 75 0) (C.1 83 0)) (kwS (rsS S2 (C.1 81 0) (C.1 82 0) (C.1 75 0) (C.1 83 0)) (akN X ta C)) := FO.kw
    have FR : TyF (rsS S2 (C.1 81 0) (C.1 82 0) (C.1 75 0) (C.1 83 0)) (kwS (rsS S2 (C.1 81 0) (C.1 82 0) (C.1 75 0) (C.1 83 0)) (akN X ta C)) (sJ (aiT T22 rr9) 77 0 (flw T9)) T26 := by
      rw [← eT26]
      exact TyF.st (by rw [fo2.1 65 (by unfold fO; omega)]) (fun k _ _ => fo2.1 k (by unfold fO; omega)) (fo2.1 15 (by unfold fO; omega)) (by funext j; exact knT_o.2 62 j (by omega)) (knT_o.2 63 0 (by omega))
    have fvP := fvR.on (FV.fo fo2)
    have F2P : TyF S2 (kwS (rsS S2 (C.1 81 0) (C.1 82 0) (C.1 75 0) (C.1 83 0)) (akN X ta C)) T14 T26 := ((c2'.tr k2).tr l2).tr FR
    generalize kwS (rsS S2 (C.1 81 0) (C.1 82 0) (C.1 75 0) (C.1 83 0)) (akN X ta C) = P at *
    have t26 : T26.1 = (aiT T22 rr9).1 := by rw [← eT26, knT_o.1]; rfl
    have n0l : n0 + 1 ≤ n4 := (f8.fz).up h517 (by omega) a3 (by omega)
    -- rows
    have oE : ∀ g j, 48 ≤ g → g ≤ 51 → (¬ g = 49 ∨ ¬ j = n4) → T26.1 g j = T22.1 g j := fun g j _ _ hh => by
      rw [t26]
      by_cases c49 : g = 49
      · subst c49
        rw [am_49 er9 (by omega), if_neg (by omega)]
      · rw [am_o c49]
    have o22 : ∀ g j, 48 ≤ g → g ≤ 50 → j < q → T22.1 g j = T14.1 g j := fun g j g1 g2 hj => by
      obtain ⟨c', _, _, _, h4⟩ := j2.2.2.2.2.2.1 q d3 (by omega)
      exact h4 g j g1 g2 hj
    have o14 : ∀ g j, 48 ≤ g → g ≤ 50 → j < n4 + 1 → T14.1 g j = T9.1 g j := fun g j g1 g2 hj => by
      obtain ⟨c', _, _, _, h4⟩ := z9_14.2.2.2.2.2.1 (n4 + 1) h519 (by omega)
      exact h4 g j g1 g2 hj
    have A9 : AgK C C T8 T9 0 n4 := AgK.fz b2 rfl m2.fz a3 (by omega) (Nat.le_refl _)
    have A26 : AgK C P T9 T26 0 n4 := ⟨F14.tr F2P, (fv2.on fvP).2.2.2.2.2.2, fun k _ _ => by rw [t26, am_o (by omega), j2.o (by omega), z9_14.o (by omega) (by omega)], fun g j g1 g2 j1 jj => by rw [oE g j g1 (by omega) (Or.inr (by omega)), o22 g j g1 g2 (by omega), o14 g j g1 g2 (by omega)]⟩
    have AB : AgK S2 P T14 T26 (n4 + 1) q := ⟨F2P, fvP.2.2.2.2.2.2, fun k _ _ => by rw [t26, am_o (by omega), j2.o (by omega)], fun g j g1 g2 j1 jj => by rw [oE g j g1 (by omega) (Or.inr (by omega)), o22 g j g1 g2 (by omega)]⟩
    have lv26 : lvC T26 16384 = lvC T22 16384 := by
      have x1 : T26.2 62 = T22.2 62 := by
        rw [← eT26]
        funext j
        rw [knT_o.2 62 j (by omega), rdJ, if_neg (fun q => by have := q.1; omega), am_2]
      have x2 : T26.2 63 = T22.2 63 := by
        rw [← eT26]
        funext j
        rw [knT_o.2 63 j (by omega), rdJ, if_neg (fun q => by have := q.1; omega), am_2]
      exact lvC_62 x1 x2 16384
    refine ⟨kN, (((g2.tr a2).tr b2).tr F14).tr F2P, ⟨q + 1, by rw [oE 51 0 (by omega) (by omega) (Or.inl (by omega))]; exact h5122, by omega, by omega, ?_⟩, by omega, (fvC.on fv2).on fvP⟩
    rw [KdS_n]
    unfold KsN
    rw [if_neg (by omega), if_neg (by omega), if_neg (by omega)]
    refine ⟨by omega, ?_, ?_⟩
    · have A8 : AgK (whO X tb S) C T7 T8 0 (n0 + 1) := AgK.fz a2 (by rw [ec]; exact (chk_fe ta 0 0 _).1 12 (by omega)) f8.fz h517 (by omega) (Nat.le_refl _)
      rw [((A8.tr (A9.sub (Nat.le_refl _) (by omega))).tr (A26.sub (Nat.le_refl _) (by omega))).rw (by omega) (by omega)]
      unfold cw3
      rw [t7]
      exact hrow
    rw [if_neg (by omega), if_neg (by omega), if_pos rfl]
    rw [eC]
    refine ⟨n4, q, a5.mo (A9.tr A26) (by omega) (Nat.le_refl _), by omega, rfl, ?_, ?_, KdS.mo _ _ _ _ _ _ AB d6⟩
    · have r48 : T26.1 48 n4 = 51 := by
        rw [oE 48 n4 (by omega) (by omega) (Or.inl (by omega)), o22 48 n4 (by omega) (by omega) (by omega), o14 48 n4 (by omega) (by omega) (by omega)]
        exact congrArg (·.1) row9
      have r50 : T26.1 50 n4 = 0 := by
        rw [oE 50 n4 (by omega) (by omega) (Or.inl (by omega)), o22 50 n4 (by omega) (by omega) (by omega), o14 50 n4 (by omega) (by omega) (by omega)]
        exact congrArg (·.2.2) row9
      have r49 : T26.1 49 n4 = nI (q + 1) := by
        rw [t26, am_49 er9 (by omega), if_pos rfl]
        exact h5122
      unfold cw3
      rw [r48, r49, r50]
    · have r48 : T26.1 48 q = 50 := by
        rw [oE 48 q (by omega) (by omega) (Or.inl (by omega))]
        exact congrArg (·.1) row22
      have r49 : T26.1 49 q = nI n0 := by
        rw [oE 49 q (by omega) (by omega) (Or.inr (by omega))]
        exact congrArg (·.2.1) row22
      have r50 : T26.1 50 q = 0 := by
        rw [oE 50 q (by omega) (by omega) (Or.inl (by omega))]
        exact congrArg (·.2.2) row22
      unfold cw3
      rw [r48, r49, r50]
  by_cases c52 : fb (flw T14) 52 = true
  · rw [if_pos c52, if_neg (by decide)]
    obtain ⟨o, h1, h2⟩ := c_same (nf := nf) (d := d + 2) (T := T14) (w := T14.2 77 0) (u := T9.2 77 0) (by omega)
    rw [h1, bis]
    by_cases co : o = true
    · rw [if_pos co, if_neg (by decide)]
      exact rest 1 (Or.inr rfl) ⟨fun w => absurd w (by decide), fun w => absurd (h2.mp co) w.2⟩
    · rw [if_neg co, if_pos rfl]
      exact rest 0 (Or.inl rfl) ⟨fun _ => ⟨c52, fun w => co (h2.mpr w)⟩, fun _ => rfl⟩
  · rw [if_neg c52, if_pos rfl]
    exact rest 1 (Or.inr rfl) ⟨fun w => absurd w (by decide), fun w => absurd w.1 c52⟩
end ZSI
