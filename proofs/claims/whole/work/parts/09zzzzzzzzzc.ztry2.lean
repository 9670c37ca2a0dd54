/-! a try STEP on both sides -/
section ZSK
variable {S S' S1 S2 T T' T1 T2 T3 : gSt} {X : Lx} {nf d it e v g n dd v' g' k i e' u c m lo hi a b n0 y z p q r j s f yv yx yr lr N m0 c0 dd1 i2 e2 n' : Nat} {ta tb tr tA tB : Tr} {pl x op cc t x4 rr ys no : Int32} {R : RgR} {nm w w2 : Int64} {bo zb : Bool} {A B : StF}
theorem sub1 (a : Int32) : a - 1 = a + (-1) := by
  rw [Int32.sub_eq_add_neg]
theorem add_1 (a : Int32) : a + 1 - 1 = a := Int32.add_sub_cancel a 1
theorem sJ_77 : sJ (sJ T 77 0 w) 77 0 w2 = sJ T 77 0 w2 := by
  refine Prod.ext rfl ?_
  funext k j
  simp only [rdJ]
  by_cases c : k = 77 ∧ j = 0
  · rw [if_pos c, if_pos c]
  · simp only [if_neg c]
theorem FV.w87 : FV S (sI S 87 0 x) := ⟨by rw [sI_ne (by omega)], fun k _ => by rw [sI_ne (by omega)], by rw [sI_ne (by omega)], fun k _ => by rw [sI_ne (by omega)], by unfold vn; rw [sI_ne (by omega)]; exact Nat.le_refl _, fun u _ => ⟨by rw [sI_ne (by omega)], by rw [sI_ne (by omega)], rfl⟩, sI_ne (by omega)⟩
theorem z_28 (hX : XO X) (hnf : 16385 ≤ nf) (hA : Zb0 nf X it ta) (hB : Zb0 nf X it tb) : Zs2 nf X it (tD 28 i e' ta tb) := by
  intro T lo hi dd d a b v g v' g' ⟨p1, p2, p3, p4, p5, p6, p7, p8, p9, p10, p11⟩
  have hxn := hX.1
  rw [RcS_n] at p1
  unfold RsC at p1
  rw [if_neg (by omega), if_neg (by omega), if_neg (by omega)] at p1
  obtain ⟨q1, q2, q3⟩ := p1
  rw [if_neg (by omega), if_neg (by omega), if_neg (by omega), if_neg (by omega), if_neg (by omega), if_neg (by omega), if_neg (by omega), if_pos rfl] at q3
  obtain ⟨r1, c, rc1, rc2, r5, r6, r7, r8⟩ := q3
  rw [SG_n] at p4
  unfold sgN at p4
  rw [if_neg (by omega), if_neg (by omega), if_neg (by omega), if_neg (by omega), if_neg (by omega), if_neg (by omega), if_neg (by omega), if_neg (by omega), if_neg (by omega), if_neg (by omega), if_neg (by omega), if_pos rfl] at p4
  obtain ⟨sA, sB⟩ := p4
  rw [Ws_n] at p5
  unfold WsN at p5
  rw [if_neg (by omega), if_neg (by omega), if_neg (by omega), if_neg (by omega), if_neg (by omega), if_neg (by omega), if_neg (by omega), if_neg (by omega), if_neg (by omega), if_neg (by omega), if_neg (by omega), if_neg (by omega), if_pos rfl] at p5
  obtain ⟨w1, ct, v1, g1, wA, wB⟩ := p5
  obtain ⟨ma1, ma2, ma3⟩ := Ws_mo _ _ _ _ _ _ _ _ wA
  obtain ⟨mb1, mb2, mb3⟩ := Ws_mo _ _ _ _ _ _ _ _ wB
  obtain ⟨i31, e31, tl, tl2, eta, _, _⟩ := ws_2 wA
  have dd19 : dd + 1 ≤ 20 := by
    have sA' := sA
    rw [eta, SG_n] at sA'
    unfold sgN at sA'
    rw [if_neg (by omega), if_pos rfl] at sA'
    exact sA'.2.2.2
  have bd1 : 1 ≤ bdT ta := by rw [eta]; show 1 ≤ bdT tl + 1; omega
  obtain ⟨d, rfl⟩ : ∃ g, d = g + 4 := ⟨d - 4, by omega⟩
  have zl : inb (nI lo) 4008 := nin (by omega) (by omega)
  obtain ⟨u, hu, huv⟩ := p7.2.1
  obtain ⟨c76, h76, h76d⟩ := p7.2.2.2.2.2.1
  obtain ⟨m72, h72, h72g⟩ := p7.2.2.2.1
  have v20 := p7.2.2.1
  have g8 := p7.2.2.2.2.1
  have ekw : kwS2 (tD 28 i e' ta tb) = kwS2 ta + kwS2 tb + 5 := rfl
  have elv : lvS2 X (tD 28 i e' ta tb) = lvS2 X ta + lvS2 X tb := rfl
  have ebd : bdT (tD 28 i e' ta tb) = max (bdT ta) (bdT tb) := rfl
  have est : ∀ S, stS X it (tD 28 i e' ta tb) 0 0 0 S = trC X (stS X it ta) (stS X it tb) ta i S := fun S => rfl
  have h110 : ∀ T5, FZ T T5 → T5.1 11 0 = 0 := fun T5 f => by
    rw [f.o (by omega) (by omega)]
    obtain ⟨_, _, _, k, _⟩ := p7.1.2.2.2.2.2.2.1
    exact k
  rw [e_Steps_checkStep _ (d + 3)]
  unfold rb_Steps_checkStep
  rw [gd, if_pos zl, nc (by omega), r1, if_neg (by decide), if_neg (by decide), if_neg (by decide), if_neg (by decide), if_neg (by decide), if_neg (by decide), if_neg (by decide), if_neg (by decide), if_pos rfl, e_Steps_checkTry _ (d + 2)]
  unfold rb_Steps_checkTry
  rw [lK]
  refine wp_bi (R := fun _ _ T' => FZ T T' ∧ FqZ T T' v' ∧ ∀ e n S n0, SrR X it e v g n S T → n + bdT (tD 28 i e' ta tb) ≤ 40 → T.1 51 0 = nI (n0 + 1) → cw3 T n0 = (1, nI (xP X (tkI (tD 28 i e' ta tb))), 0) → n0 + kwS2 (tD 28 i e' ta tb) ≤ 6032 → lvC T 16384 + lvS2 X (tD 28 i e' ta tb) + 30 < 16384 → cn (stS X it (tD 28 i e' ta tb) 0 0 0 S) < 6000 → ZO2 X it e v' g' n S T (tD 28 i e' ta tb) 0 0 0 n0 T') ?_ (fun r _ T' h => wp_some h)
  obtain ⟨rr2, T2, m1, m2, m3, m4⟩ := em_r (nf := nf) (d := d + 2) (T := T) (x := 54) (pl := 0) (op := 0) p7.1.2.1 p7.1.2.2.2.2.2.1 (by omega)
  rw [m1, bis, stK]
  obtain ⟨W2, fq2⟩ := p7.fx m2
  have z3 : FZ T2 (sI T2 75 0 (T2.1 75 0 + 1)) := FZ.sc m2.2.2.1 (fun k hk => sI_ne (by omega)) (fun _ _ _ _ _ => rfl) (by rw [sI_ne (by omega)])
  have W3 : WZ X (sI T2 75 0 (T2.1 75 0 + 1)) v g dd := W2.fzs z3 (by rw [sI_ne (by omega)]) (fun j => by rw [sI_ne (by omega)]) ⟨m72, by rw [sI_ne (by omega), m2.o (by omega)]; exact h72, h72g⟩ g8 ⟨c76, by rw [sI_ne (by omega), m2.o (by omega)]; exact h76, h76d⟩ (by omega)
  have zT3 : FZ T (sI T2 75 0 (T2.1 75 0 + 1)) := m2.fz.tr z3
  have e3o : ∀ k, k ≠ 75 → (sI T2 75 0 (T2.1 75 0 + 1)).1 k = T2.1 k := fun k hk => sI_ne hk
  have e375 : (sI T2 75 0 (T2.1 75 0 + 1)).1 75 0 = T.1 75 0 + 1 := by rw [sI_v, m2.o (by omega)]
  have rel3 : ∀ e n S, SrR X it e v g n S T2 → n < 40 → SrR X it e v g (n + 1) (trO S) (sI T2 75 0 (T2.1 75 0 + 1)) ∧ TyF S (trO S) T2 (sI T2 75 0 (T2.1 75 0 + 1)) ∧ FZ T2 (sI T2 75 0 (T2.1 75 0 + 1)) ∧ lvC (sI T2 75 0 (T2.1 75 0 + 1)) 16384 = lvC T2 16384 := fun e n S h hn => h.tro hn
  generalize e3 : sI T2 75 0 (T2.1 75 0 + 1) = T3 at z3 W3 zT3 e3o e375 rel3 ⊢
  rw [gd, if_pos zl, nc (by omega), zT3.o (k := 17) (by omega) (by omega), r5, nI_1]
  refine wp_bi (hA T3 (lo + 1) c (dd + 1) (d + 2) (a + 1) ct v g v1 g1 ⟨r6.fz zT3, by omega, by omega, sA, wA, by omega, W3.up (by omega), dd19, by omega, by omega, by omega⟩) ?_
  intro _ _ T5 ⟨z5, fq5, c68, zA, evA⟩
  have W5 : WZ X T5 v1 g1 dd := W3.fzq z5 fq5 (by omega) ma3 (by omega)
  obtain ⟨y1, y2, y3, uu, u', y4, y5, y6, y7, y8, y9⟩ := fq5
  have h685 : T5.1 68 0 = nI u := by rw [c68, e3o 68 (by omega), m2.o (by omega)]; exact hu
  have eu' : u' = u := nI_inj (by omega) (by omega) (by rw [← y5, ← h685])
  subst eu'
  rw [stK, lK]
  have z6 : FZ T5 (sI T5 75 0 (T5.1 75 0 - 1)) := FZ.sc z5.2.2.1 (fun k hk => sI_ne (by omega)) (fun _ _ _ _ _ => rfl) (by rw [sI_ne (by omega)])
  have e6o : ∀ k, k ≠ 75 → (sI T5 75 0 (T5.1 75 0 - 1)).1 k = T5.1 k := fun k hk => sI_ne hk
  have e62 : (sI T5 75 0 (T5.1 75 0 - 1)).2 = T5.2 := rfl
  have fq6 : FqZ T (sI T5 75 0 (T5.1 75 0 - 1)) v1 := ⟨by rw [e6o 72 (by omega), y1, e3o 72 (by omega), m2.o (by omega)], by rw [sI_v, y2, e375, add_1], by rw [e6o 76 (by omega), y3, e3o 76 (by omega), m2.o (by omega)], u', u', hu, by rw [e6o 68 (by omega)]; exact h685, Nat.le_refl _, by omega, by omega, fun j hj => by
    obtain ⟨y, x1, x2⟩ := y9 j hj
    exact ⟨y, by rw [e6o 70 (by omega)]; exact x1, z6.2.2.2.1 y x2⟩⟩
  have zT6 : FZ T (sI T5 75 0 (T5.1 75 0 - 1)) := (zT3.tr z5).tr z6
  have W6 : WZ X (sI T5 75 0 (T5.1 75 0 - 1)) v1 g1 dd := p7.fzq zT6 fq6 (by omega) ma3 (by omega)
  have rel6 : ∀ e n S, SrR X it e v1 g1 (n + 1) S T5 → S.1 85 n = -1 → n < 40 → SrR X it e v1 g1 n (sI S 84 0 (S.1 84 0 - 1)) (sI T5 75 0 (T5.1 75 0 - 1)) ∧ TyF S (sI S 84 0 (S.1 84 0 - 1)) T5 (sI T5 75 0 (T5.1 75 0 - 1)) ∧ FZ T5 (sI T5 75 0 (T5.1 75 0 - 1)) ∧ lvC (sI T5 75 0 (T5.1 75 0 - 1)) 16384 = lvC T5 16384 := fun e n S h h85 hn => h.tre h85 hn
  generalize e6 : sI T5 75 0 (T5.1 75 0 - 1) = T6 at z6 e6o e62 fq6 zT6 W6 rel6 ⊢
  obtain ⟨r8', T8, k1, k2, k3⟩ := a_emit (nf := nf) (d := d + 2) (T := T6) (x := 55) (y := 0) (z := 0) W6.1.2.1 W6.1.2.2.2.2.2.1 (by omega)
  rw [k1, bis]
  obtain ⟨W8, fq8⟩ := W6.fx k2
  obtain ⟨rr9, T9, j1, j2, j3, j4⟩ := em_r (nf := nf) (d := d + 2) (T := T8) (x := 50) (pl := 0) (op := 0) W8.1.2.1 W8.1.2.2.2.2.2.1 (by omega)
  rw [j1, bis]
  obtain ⟨W9, fq9⟩ := W8.fx j2
  have zT8 : FZ T T8 := zT6.tr k2.fz
  have zT9 : FZ T T9 := zT8.tr j2.fz
  have z2_9 : FZ T2 T9 := (((z3.tr z5).tr z6).tr k2.fz).tr j2.fz
  have b2 : rr2 = -1 ∨ ∃ m, rr2 = nI m ∧ m < 100000 ∧ ∀ c, T.1 51 0 = nI c → c ≤ 6032 → c ≤ m := by
    rcases m4 with w | ⟨n4, w1, w2, w3, w4⟩
    · exact Or.inl w
    · refine Or.inr ⟨n4, w1, by omega, fun c hc hc2 => ?_⟩
      have := nI_inj (a := c) (b := n4) (by omega) (by omega) (by rw [← hc, ← w3])
      omega
  have am2 : rr2 = -1 ∨ ∃ m c, rr2 = nI m ∧ T9.1 51 0 = nI c ∧ m < c ∧ c ≤ 6032 := by
    obtain ⟨c5, h5, h5'⟩ := W9.1.2.2.2.2.2.1
    rcases m4 with w | ⟨n4, w1, w2, w3, w4⟩
    · exact Or.inl w
    · have := z2_9.up w4 (by omega) h5 (by omega)
      exact Or.inr ⟨n4, c5, w1, h5, by omega, h5'⟩
  rw [c_am am2 (by omega), bis, stK]
  have zT10 : FZ T (aiT T9 rr2) := zT9.am p7.1.2.2.2.2.2.1 b2
  have fq10 : FqZ T (aiT T9 rr2) v1 := ((fq6.tr fq8).tr fq9).am zT9.2.2.1
  have W10 : WZ X (aiT T9 rr2) v1 g1 dd := p7.fzq zT10 fq10 (by omega) ma3 (by omega)
  obtain ⟨W11, z11, fq11⟩ := W10.fl (T' := sJ (aiT T9 rr2) 77 0 (T.2 77 0)) rfl (fun p j hp => by rw [rdJ, if_neg (fun q => hp q.1)])
  have zT11 : FZ T (sJ (aiT T9 rr2) 77 0 (T.2 77 0)) := zT10.tr z11
  have h6810 : (aiT T9 rr2).1 68 0 = nI u' := by rw [am_o (by omega), j2.o (by omega), k2.o (by omega), e6o 68 (by omega)]; exact h685
  rw [gd, if_pos zl, zT11.o (k := 17) (by omega) (by omega), r5, (c_gv (nf := nf) hX hnf (ndT ta + 1) ta (by omega)).1 (sJ (aiT T9 rr2) 77 0 (T.2 77 0)) (lo + 1) c (dd + 1) (d + 2) u' (a + 1) ct v g v1 g1 (r6.fz zT11) (by omega) (by omega) sA wA (by omega) W11.1.1 (h110 _ zT11) h6810 (by omega) (by omega), bis, c_fgt (by omega), bis, show flw (sJ (aiT T9 rr2) 77 0 (T.2 77 0)) = flw T from flw_w, sJ_77]
  obtain ⟨W14, z14, fq14⟩ := W10.fl (T' := sJ (aiT T9 rr2) 77 0 (fgW (flw T) (gvK X (sJ (aiT T9 rr2) 77 0 (T.2 77 0)) u' ta 0))) rfl (fun p j hp => by rw [rdJ, if_neg (fun q => hp q.1)])
  generalize ex : gvK X (sJ (aiT T9 rr2) 77 0 (T.2 77 0)) u' ta 0 = gx at W14 z14 fq14 ⊢
  have t14 : (sJ (aiT T9 rr2) 77 0 (fgW (flw T) gx)).1 = (aiT T9 rr2).1 := rfl
  generalize e14 : sJ (aiT T9 rr2) 77 0 (fgW (flw T) gx) = T14 at W14 z14 fq14 t14 ⊢
  have zT14 : FZ T T14 := zT10.tr z14
  have fqT14 : FqZ T T14 v1 := fq10.tr fq14
  have e7614 : T14.1 76 0 = T.1 76 0 := fqT14.2.2.1
  obtain ⟨r15, T15, l1, l2, l3⟩ := a_emit (nf := nf) (d := d + 2) (T := T14) (x := 4) (y := (60 : Int32) + T14.1 76 0) (z := 1) W14.1.2.1 W14.1.2.2.2.2.2.1 (by omega)
  rw [l1, bis, stK]
  obtain ⟨W15, fq15⟩ := W14.fx l2
  have zT15 : FZ T T15 := zT14.tr l2.fz
  have fqT15 : FqZ T T15 v1 := fqT14.tr fq15
  have z16 : FZ T15 (sI T15 76 0 (T15.1 76 0 + 1)) := FZ.sc l2.2.2.1 (fun k hk => sI_ne (by omega)) (fun _ _ _ _ _ => rfl) (by rw [sI_ne (by omega)])
  have e16o : ∀ k, k ≠ 76 → (sI T15 76 0 (T15.1 76 0 + 1)).1 k = T15.1 k := fun k hk => sI_ne hk
  have e1676 : (sI T15 76 0 (T15.1 76 0 + 1)).1 76 0 = T.1 76 0 + 1 := by rw [sI_v, fqT15.2.2.1]
  have W16 : WZ X (sI T15 76 0 (T15.1 76 0 + 1)) v1 g1 (dd + 1) := by
    obtain ⟨mm, mm1, mm2⟩ := W15.2.2.2.1
    exact W15.fzs z16 (by rw [sI_ne (by omega)]) (fun j => by rw [sI_ne (by omega)]) ⟨mm, by rw [sI_ne (by omega)]; exact mm1, mm2⟩ W15.2.2.2.2.1 ⟨c76 + 1, by rw [e1676, h76]; exact nI_1 _, by omega⟩ dd19
  have zT16 : FZ T (sI T15 76 0 (T15.1 76 0 + 1)) := zT15.tr z16
  have rel16 : ∀ e n S, SrR X it e v1 g1 n S T15 → SrR X it e v1 g1 n (sI S 87 0 (S.1 87 0 + 1)) (sI T15 76 0 (T15.1 76 0 + 1)) ∧ TyF S (sI S 87 0 (S.1 87 0 + 1)) T15 (sI T15 76 0 (T15.1 76 0 + 1)) ∧ FZ T15 (sI T15 76 0 (T15.1 76 0 + 1)) ∧ lvC (sI T15 76 0 (T15.1 76 0 + 1)) 16384 = lvC T15 16384 := fun e n S h => h.cat (Or.inl rfl)
  generalize e16 : sI T15 76 0 (T15.1 76 0 + 1) = T16 at z16 e16o e1676 W16 zT16 rel16 ⊢
  rw [gd, if_pos zl, zT16.o (k := 18) (by omega) (by omega), r7]
  refine wp_bi (hB T16 c hi (dd + 1) (d + 2) (ct + 1) b v1 g1 v' g' ⟨r8.fz zT16, by omega, p3, sB, wB, p6, W16, dd19, by omega, p10, p11⟩) ?_
  intro _ _ T18 ⟨z18, fq18, c6818, zB, evB⟩
  rw [stK]
  have z19 : FZ T18 (sI T18 76 0 (T18.1 76 0 - 1)) := FZ.sc z18.2.2.1 (fun k hk => sI_ne (by omega)) (fun _ _ _ _ _ => rfl) (by rw [sI_ne (by omega)])
  have e19o : ∀ k, k ≠ 76 → (sI T18 76 0 (T18.1 76 0 - 1)).1 k = T18.1 k := fun k hk => sI_ne hk
  have zT19 : FZ T (sI T18 76 0 (T18.1 76 0 - 1)) := (zT16.tr z18).tr z19
  have z10_19 : FZ (aiT T9 rr2) (sI T18 76 0 (T18.1 76 0 - 1)) := (((z14.tr l2.fz).tr z16).tr z18).tr z19
  have fq19 : FqZ T (sI T18 76 0 (T18.1 76 0 - 1)) v' := by
    obtain ⟨x1, x2, x3, ua, ub, x4, x5, x6, x7, x8, x9⟩ := fq18
    obtain ⟨f1, f2, f3, _⟩ := fqT15
    have h6816 : T16.1 68 0 = nI u' := by rw [e16o 68 (by omega), l2.o (by omega), t14]; exact h6810
    have eub : ub = u' := nI_inj (by omega) (by omega) (by rw [← x5, c6818, h6816])
    subst eub
    refine ⟨by rw [e19o 72 (by omega), x1, e16o 72 (by omega)]; exact f1, by rw [e19o 75 (by omega), x2, e16o 75 (by omega)]; exact f2, by rw [sI_v, x3, e1676, add_1], ub, ub, hu, by rw [e19o 68 (by omega)]; exact x5, Nat.le_refl _, by omega, by omega, fun j hj => ?_⟩
    obtain ⟨y, g1, g2⟩ := x9 j hj
    exact ⟨y, by rw [e19o 70 (by omega)]; exact g1, z19.2.2.2.1 y g2⟩
  have rel19 : ∀ e n S, SrR X it e v' g' n S T18 → SrR X it e v' g' n (sI S 87 0 (S.1 87 0 - 1)) (sI T18 76 0 (T18.1 76 0 - 1)) ∧ TyF S (sI S 87 0 (S.1 87 0 - 1)) T18 (sI T18 76 0 (T18.1 76 0 - 1)) ∧ FZ T18 (sI T18 76 0 (T18.1 76 0 - 1)) ∧ lvC (sI T18 76 0 (T18.1 76 0 - 1)) 16384 = lvC T18 16384 := fun e n S h => by
    rw [sub1, sub1]
    exact h.cat (Or.inr rfl)
  generalize e19 : sI T18 76 0 (T18.1 76 0 - 1) = T19 at z19 e19o zT19 z10_19 fq19 rel19 ⊢
  have W19 : WZ X T19 v' g' dd := p7.fzq zT19 fq19 (by omega) (by omega) (by omega)
  have b9 : rr9 = -1 ∨ ∃ m, rr9 = nI m ∧ m < 100000 ∧ ∀ c, T.1 51 0 = nI c → c ≤ 6032 → c ≤ m := by
    rcases j4 with w | ⟨n4, w1, w2, w3, w4⟩
    · exact Or.inl w
    · exact Or.inr ⟨n4, w1, by omega, fun c hc hc2 => zT8.up hc hc2 w3 (by omega)⟩
  have am9 : rr9 = -1 ∨ ∃ m c, rr9 = nI m ∧ T19.1 51 0 = nI c ∧ m < c ∧ c ≤ 6032 := by
    obtain ⟨c5, h5, h5'⟩ := W19.1.2.2.2.2.2.1
    rcases j4 with w | ⟨n4, w1, w2, w3, w4⟩
    · exact Or.inl w
    · have := z10_19.up (m := n4 + 1) (by rw [am_o (by omega)]; exact w4) (by omega) h5 (by omega)
      exact Or.inr ⟨n4, c5, w1, h5, by omega, h5'⟩
  rw [c_am am9 (by omega), bis]
  have zT20 : FZ T (aiT T19 rr9) := zT19.am p7.1.2.2.2.2.2.1 b9
  have fq20 : FqZ T (aiT T19 rr9) v' := fq19.am zT19.2.2.1
  have W20 : WZ X (aiT T19 rr9) v' g' dd := p7.fzq zT20 fq20 (by omega) (by omega) (by omega)
  have hm := y_mt (nf := nf) (d := d + 2) (w := T6.2 77 0) (i := i) hX W20 (by rw [zT20.o (by omega) (by omega)]; exact q2) (show lo < 4008 by omega) (by omega) (by omega)
  unfold rj_Steps_checkIf_173 at hm
  rw [nc (by omega)] at hm
  refine wp_mono hm ?_
  intro _ _ T' ⟨zm, fqm, hm⟩
  refine ⟨zT20.tr zm, fq20.tr fqm, fun e n S n0 hR hbd h51 hrow hn hl hc => ?_⟩
  have ei : tkI (tD 28 i e' ta tb) = i := rfl
  unfold ZO2
  rw [ekw] at hn ⊢
  rw [elv] at hl ⊢
  rw [ebd] at hbd
  rw [ei] at hrow
  rw [est] at hc ⊢
  have bA : n + bdT ta ≤ 40 := by have := Nat.le_max_left (bdT ta) (bdT tb); omega
  have bB : n + bdT tb ≤ 40 := by have := Nat.le_max_right (bdT ta) (bdT tb); omega
  have hV := hR.1.2.2.2.2.2.2.2.2.1
  obtain ⟨w20, s77, t68⟩ := hV.vs
  have evS : vn S = u' := nI_inj (by omega) (by omega) (by rw [← t68, ← hu])
  have s84 := hR.1.2.2.1.2.2.2.2.2.2.1
  have ean : arn S = n := by unfold arn; rw [s84]; exact nc (by omega)
  -- the spec, in short
  have eM : ∀ S2, S2 = stS X it ta 0 0 0 (trO S) → trC X (stS X it ta) (stS X it tb) ta i S = if S2.1 7 0 = 0 then (if (stS X it tb 0 0 0 (trM X (stS X it ta) ta S)).1 7 0 = 0 then mtS (sI (stS X it tb 0 0 0 (trM X (stS X it ta) ta S)) 87 0 ((stS X it tb 0 0 0 (trM X (stS X it ta) ta S)).1 87 0 - 1)) (S2.1 81 0) (S2.1 82 0) (S2.1 75 0) (S2.1 83 0) (nI (xP X i)) else sI (stS X it tb 0 0 0 (trM X (stS X it ta) ta S)) 87 0 ((stS X it tb 0 0 0 (trM X (stS X it ta) ta S)).1 87 0 - 1)) else sI S2 84 0 (S2.1 84 0 - 1) := fun S2 h2 => by
    subst h2
    unfold trC trM
    dsimp only
    simp only [sI_ne (show 7 ≠ 84 by omega), sI_ne (show 7 ≠ 87 by omega), sI_ne (show 81 ≠ 84 by omega), sI_ne (show 82 ≠ 84 by omega), sI_ne (show 75 ≠ 84 by omega), sI_ne (show 83 ≠ 84 by omega)]
  rw [eM _ rfl] at hc ⊢
  have fA : FS S (stS X it ta 0 0 0 (trO S)) := (FS.wr (by omega) : FS S (sI S 85 (arn S) (-1))).tr ((FS.wr (by omega)).tr (st_fs ta 0 0 0 _))
  have gA := fA.tg hR.1.2.2.1.1.1
  have fM : FS (stS X it ta 0 0 0 (trO S)) (trM X (stS X it ta) ta S) := by
    unfold trM
    exact ((FS.wr (by omega)).tr FS.rs).tr (FS.wr (by omega))
  have fB : FS (trM X (stS X it ta) ta S) (stS X it tb 0 0 0 (trM X (stS X it ta) ta S)) := st_fs tb 0 0 0 _
  have hcs : cn (stS X it ta 0 0 0 (trO S)) < 6000 ∧ ((stS X it ta 0 0 0 (trO S)).1 7 0 = 0 → cn (stS X it tb 0 0 0 (trM X (stS X it ta) ta S)) < 6000) := by
    by_cases c7 : (stS X it ta 0 0 0 (trO S)).1 7 0 = 0
    · rw [if_pos c7] at hc
      have f7 : FS (stS X it tb 0 0 0 (trM X (stS X it ta) ta S)) (if (stS X it tb 0 0 0 (trM X (stS X it ta) ta S)).1 7 0 = 0 then mtS (sI (stS X it tb 0 0 0 (trM X (stS X it ta) ta S)) 87 0 ((stS X it tb 0 0 0 (trM X (stS X it ta) ta S)).1 87 0 - 1)) ((stS X it ta 0 0 0 (trO S)).1 81 0) ((stS X it ta 0 0 0 (trO S)).1 82 0) ((stS X it ta 0 0 0 (trO S)).1 75 0) ((stS X it ta 0 0 0 (trO S)).1 83 0) (nI (xP X i)) else sI (stS X it tb 0 0 0 (trM X (stS X it ta) ta S)) 87 0 ((stS X it tb 0 0 0 (trM X (stS X it ta) ta S)).1 87 0 - 1)) := by
        split
        · exact (FS.wr (by omega)).tr FS.mt
        · exact FS.wr (by omega)
      have h1 := f7.lt ((fM.tr fB).tg gA) hc
      exact ⟨(fM.tr fB).lt gA h1, fun _ => h1⟩
    · rw [if_neg c7] at hc
      exact ⟨(FS.wr (by omega) : FS (stS X it ta 0 0 0 (trO S)) (sI _ 84 0 _)).lt gA hc, fun w => absurd w c7⟩
  -- the jump to the catch
  obtain ⟨eT2, er2⟩ := m3 (n0 + 1) h51 (by omega)
  obtain ⟨x1, x2, x3⟩ := hR.em (a := 54) (b := 0) (z := 0) h51 (by omega)
  rw [← eT2] at x1 x2 x3
  have h512 : T2.1 51 0 = nI (n0 + 2) := by rw [eT2]; exact em_51
  have row2 : cw3 T2 (n0 + 1) = (54, 0, 0) := by rw [eT2]; exact em_row
  obtain ⟨o1, o2, _, o4⟩ := rel3 e n S x1 (by omega)
  have h513 : T3.1 51 0 = nI (n0 + 2) := by rw [e3o 51 (by omega)]; exact h512
  -- faults go through
  have thru : ∀ U, BfR U T6 → BfR U T' := fun U h => ((((h.fx k2).fx j2).am).fz z10_19).am.fz zm
  rcases zA e (n + 1) (trO S) (n0 + 2) o1 (by omega) (by omega) h513 (by omega) (by omega) hcs.1 with bf | ⟨d1, d2, ⟨q, d3, d4, d5, d6⟩, d7, d8⟩
  · left
    rw [if_neg bf.1]
    have : BfR (sI (stS X it ta 0 0 0 (trO S)) 84 0 ((stS X it ta 0 0 0 (trO S)).1 84 0 - 1)) T5 := by
      unfold BfR
      rw [sI_ne (by omega), sI_ne (by omega)]
      exact bf
    exact thru _ (this.fz z6)
  have hcB := hcs.2 d1.1.2.2.2.1
  rw [if_pos d1.1.2.2.2.1]
  have eMM : trM X (stS X it ta) ta S = sI (rsS (sI (stS X it ta 0 0 0 (trO S)) 84 0 ((stS X it ta 0 0 0 (trO S)).1 84 0 - 1)) (S.1 81 0) (if S.1 83 0 = 0 then S.1 82 0 else S.1 82 0 &&& (gvA X ta S 0 ^^^ (-1))) (S.1 75 0) (S.1 83 0)) 87 0 ((rsS (sI (stS X it ta 0 0 0 (trO S)) 84 0 ((stS X it ta 0 0 0 (trO S)).1 84 0 - 1)) (S.1 81 0) (if S.1 83 0 = 0 then S.1 82 0 else S.1 82 0 &&& (gvA X ta S 0 ^^^ (-1))) (S.1 75 0) (S.1 83 0)).1 87 0 + 1) := rfl
  have ev2 : vn (stS X it ta 0 0 0 (trO S)) = vn S := by
    rw [evA]
    unfold vn trO
    rw [sI_ne (by omega), sI_ne (by omega)]
  have tr84 : (trO S).1 84 0 = nI (n + 1) := by unfold trO; rw [sI_v, ean]
  have tr85 : ∀ j, (trO S).1 85 j = if j = n then -1 else S.1 85 j := fun j => by
    unfold trO
    rw [sI_ne (by omega), rdI, ean]
    by_cases c : j = n
    · rw [if_pos ⟨rfl, c⟩, if_pos c]
    · rw [if_neg (fun q => c q.2), if_neg c]
  have trO' : ∀ k, k ≠ 84 → k ≠ 85 → (trO S).1 k = S.1 k := fun k a b => by unfold trO; rw [sI_ne (by omega), sI_ne (by omega)]
  have arO : arn (trO S) = n + 1 := by
    have : arn (trO S) = (nI (n + 1)).toNatClampNeg := by rw [← tr84]; rfl
    rw [this]
    exact nc (by omega)
  generalize eS2 : stS X it ta 0 0 0 (trO S) = S2 at *
  have h85 : S2.1 85 n = -1 := by rw [d8.2.2.2.1 n (by omega), tr85, if_pos rfl]
  obtain ⟨u1, u2, _, u4⟩ := rel6 e n S2 d1 h85 (by omega)
  have fv3 : FV S (sI S2 84 0 (S2.1 84 0 - 1)) := by
    obtain ⟨f1, f2, f3, f4, f5, f6, f7⟩ := d8
    have er : rn (trO S) = rn S := by unfold rn; rw [trO' 71 (by omega) (by omega)]
    have evO : vn (trO S) = vn S := by unfold vn; rw [trO' 77 (by omega) (by omega)]
    refine ⟨by rw [sI_ne (by omega), f1, trO' 71 (by omega) (by omega)], fun k hk => by rw [sI_ne (by omega), f2 k (by omega), trO' 73 (by omega) (by omega)], by rw [sI_v, f3, tr84, s84]; exact nI_sub, fun q hq => by rw [sI_ne (by omega), f4 q (by omega), tr85, if_neg (by omega)], by unfold vn at ev2 ⊢; rw [sI_ne (by omega)]; omega, fun u hu => ?_, by rw [sI_ne (by omega), f7, trO' 12 (by omega) (by omega)]⟩
    obtain ⟨h1, h2, h3⟩ := f6 u (by omega)
    exact ⟨by rw [sI_ne (by omega), h1, trO' 79 (by omega) (by omega)], by rw [sI_ne (by omega), h2, trO' 80 (by omega) (by omega)], h3⟩
  have ev3 : vn (sI S2 84 0 (S2.1 84 0 - 1)) = vn S := by unfold vn at ev2 ⊢; rw [sI_ne (by omega)]; exact ev2
  have F3 : TyF S (sI S2 84 0 (S2.1 84 0 - 1)) T T6 := ((x2.tr o2).tr d2).tr u2
  have s381 : ∀ k, k ≠ 84 → (sI S2 84 0 (S2.1 84 0 - 1)).1 k = S2.1 k := fun k hk => sI_ne hk
  generalize eS3 : sI S2 84 0 (S2.1 84 0 - 1) = S3 at *
  -- rows 55, 50
  have h516 : T6.1 51 0 = nI q := by rw [e6o 51 (by omega)]; exact d3
  have eT8 := k3 q h516 (by omega)
  obtain ⟨v1', v2', v3'⟩ := u1.em (a := 55) (b := 0) (z := 0) h516 (by omega)
  rw [← eT8] at v1' v2' v3'
  have h518 : T8.1 51 0 = nI (q + 1) := by rw [eT8]; exact em_51
  have row8 : cw3 T8 q = (55, 0, 0) := by rw [eT8]; exact em_row
  obtain ⟨eT9, er9⟩ := j3 (q + 1) h518 (by omega)
  obtain ⟨i1, i2', i3⟩ := v1'.em (a := 50) (b := 0) (z := 0) h518 (by omega)
  rw [← eT9] at i1 i2' i3
  have h519 : T9.1 51 0 = nI (q + 2) := by rw [eT9]; exact em_51
  have row9 : cw3 T9 (q + 1) = (50, 0, 0) := by rw [eT9]; exact em_row
  obtain ⟨n1, n2⟩ := i1.am (rr := rr2)
  have F10 : TyF S S3 T (aiT T9 rr2) := ((F3.tr v2').tr i2').tr n2
  have hV10 := n1.1.2.2.2.2.2.2.2.2.1
  have fw0 := hR.2.rs hV hV10 F10 fv3 ev3 (RgE.fv fv3)
  have hV11 : VaS e v1 S3 (sJ (aiT T9 rr2) 77 0 (T.2 77 0)) := (n1.1.fo (S' := S3) (T' := sJ (aiT T9 rr2) 77 0 (T.2 77 0)) (fun _ _ => rfl) rfl n1.1.2.2.1.2.2.1 rfl (fun p j hp => by rw [rdJ, if_neg (fun z => hp z.1)])).1.2.2.2.2.2.2.2.2.1
  have z0 : agB S3 0 0 := fun u s _ _ _ => by rw [fi_0, fi_0]
  have ag := (gv_bits (X := X) hV11 ta (dd + 1) 2 0 0 sA z0).1 (by omega)
  have hgi := gvK_hi (X := X) (T := sJ (aiT T9 rr2) 77 0 (T.2 77 0)) (n := vn S3) (by omega) ta 0 (fun j _ _ => fi_0)
  rw [gvA_fv fv3 ev3 ta (by omega)] at ag
  rw [show vn S3 = u' by omega, ex] at ag hgi
  have fw1 := fw0.forget (by omega) hgi ag
  obtain ⟨p1', p2'⟩ := n1.rs fw1 hR.1.2.2.1.2.2.1
  rw [e14] at p1' p2'
  have h5114 : T14.1 51 0 = nI (q + 2) := by rw [t14, am_o (by omega)]; exact h519
  have eT15 := l3 (q + 2) h5114 (by omega)
  have fvR : FV S3 (rsS S3 (S.1 81 0) (if S.1 83 0 = 0 then S.1 82 0 else S.1 82 0 &&& (gvA X ta S 0 ^^^ (-1))) (S.1 75 0) (S.1 83 0)) := FV.fo FO.rs
  have evR : vn (rsS S3 (S.1 81 0) (if S.1 83 0 = 0 then S.1 82 0 else S.1 82 0 &&& (gvA X ta S 0 ^^^ (-1))) (S.1 75 0) (S.1 83 0)) = vn S3 := by
    unfold vn
    rw [(FO.rs : FO S3 (rsS S3 (S.1 81 0) (if S.1 83 0 = 0 then S.1 82 0 else S.1 82 0 &&& (gvA X ta S 0 ^^^ (-1))) (S.1 75 0) (S.1 83 0))).1 77 (by unfold fO; omega)]
  generalize eS4 : rsS S3 (S.1 81 0) (if S.1 83 0 = 0 then S.1 82 0 else S.1 82 0 &&& (gvA X ta S 0 ^^^ (-1))) (S.1 75 0) (S.1 83 0) = S4 at *
  rw [e7614, ← hR.1.2.2.2.2.2.2.2.2.2.2.1] at eT15
  obtain ⟨a1, a2, a3⟩ := p1'.em (a := 4) (b := (60 : Int32) + S.1 87 0) (z := 1) h5114 (by omega)
  rw [← eT15] at a1 a2 a3
  have h5115 : T15.1 51 0 = nI (q + 3) := by rw [eT15]; exact em_51
  have row15 : cw3 T15 (q + 2) = (4, 60 + S.1 87 0, 1) := by rw [eT15]; exact em_row
  obtain ⟨c1, c2', _, c4⟩ := rel16 e n S4 a1
  have h5116 : T16.1 51 0 = nI (q + 3) := by rw [e16o 51 (by omega)]; exact h5115
  rw [← eMM] at c1 c2'
  have lv14 : lvC T14 16384 = lvC (aiT T9 rr2) 16384 := by
    rw [← e14]
    exact lvC_62 (T := aiT T9 rr2) (T' := sJ (aiT T9 rr2) 77 0 (fgW (flw T) gx)) rfl rfl 16384
  have lv10 : lvC (aiT T9 rr2) 16384 = lvC T9 16384 := lvC_62 (by rw [am_2]) (by rw [am_2]) 16384
  have thru2 : ∀ U, BfR U T18 → BfR U T' := fun U h => ((h.fz z19).am).fz zm
  rcases zB e n (trM X (stS X it ta) ta S) (q + 3) c1 (by omega) (by omega) h5116 (by omega) (by omega) hcB with bf | ⟨f1, f2, ⟨n5, f3, f4, f5, f6⟩, f7, f8⟩
  · left
    rw [if_neg bf.1]
    refine thru2 _ ?_
    unfold BfR
    rw [sI_ne (by omega), sI_ne (by omega)]
    exact bf
  rw [if_pos f1.1.2.2.2.1]
  have fv5 : FV S4 (trM X (stS X it ta) ta S) := by rw [eMM]; exact FV.w87
  have ev5 : vn (trM X (stS X it ta) ta S) = vn S4 := by rw [eMM]; unfold vn; rw [sI_ne (by omega)]
  have ev6 : vn (stS X it tb 0 0 0 (trM X (stS X it ta) ta S)) = vn S4 := by rw [evB, ev5]
  generalize eS6 : stS X it tb 0 0 0 (trM X (stS X it ta) ta S) = S6 at *
  obtain ⟨g1', g2', _, g4⟩ := rel19 e n S6 f1
  have fv7 : FV S6 (sI S6 87 0 (S6.1 87 0 - 1)) := FV.w87
  have ev7 : vn (sI S6 87 0 (S6.1 87 0 - 1)) = vn S6 := by unfold vn; rw [sI_ne (by omega)]
  generalize eS7 : sI S6 87 0 (S6.1 87 0 - 1) = S7 at *
  obtain ⟨h1', h2'⟩ := g1'.am (rr := rr9)
  have F6_14 : TyF S3 S4 T6 T14 := ((v2'.tr i2').tr n2).tr p2'
  have F14_20 : TyF S4 S7 T14 (aiT T19 rr9) := (((a2.tr c2').tr f2).tr g2').tr h2'
  have F320 : TyF S3 S7 T6 (aiT T19 rr9) := F6_14.tr F14_20
  have fv37 : FV S3 S7 := ((fvR.on fv5).on f8).on fv7
  have fwm := u1.2.rs u1.1.2.2.2.2.2.2.2.2.1 h1'.1.2.2.2.2.2.2.2.2.1 F320 fv37 (by omega) (RgE.fv fv37)
  rw [s381 81 (by omega), s381 82 (by omega), s381 75 (by omega), s381 83 (by omega)] at fwm
  rcases hm it e n S7 _ _ _ _ h1' fwm (by rw [← s381 83 (by omega)]; exact u1.1.2.2.1.2.2.1) with bf | ⟨t1, t2, t3, t4⟩
  · exact Or.inl bf
  right
  have fvM : FV S7 (mtS S7 (S2.1 81 0) (S2.1 82 0) (S2.1 75 0) (S2.1 83 0) (nI (xP X i))) := FV.fo FO.mt
  generalize eMt : mtS S7 (S2.1 81 0) (S2.1 82 0) (S2.1 75 0) (S2.1 83 0) (nI (xP X i)) = M at *
  -- rows
  have w20' : ∀ g j, 48 ≤ g → g ≤ 51 → (¬ g = 49 ∨ ¬ j = q + 1) → T'.1 g j = T18.1 g j := fun g j _ _ hh => by
    rw [t3]
    by_cases c49 : g = 49
    · subst c49
      rw [am_49 er9 (by omega), if_neg (by omega), e19o 49 (by omega)]
    · rw [am_o c49, e19o g (by omega)]
  have w18 : ∀ g j, 48 ≤ g → g ≤ 50 → j < q + 3 → T18.1 g j = T15.1 g j := fun g j g1 g2 hj => by
    obtain ⟨c', _, _, _, h4⟩ := z18.2.2.2.2.2.1 (q + 3) h5116 (by omega)
    rw [h4 g j g1 g2 hj, e16o g (by omega)]
  have w15 : ∀ g j, 48 ≤ g → g ≤ 50 → j < q + 2 → T15.1 g j = (aiT T9 rr2).1 g j := fun g j g1 g2 hj => by
    obtain ⟨c', _, _, _, h4⟩ := l2.2.2.2.2.2.1 (q + 2) h5114 (by omega)
    rw [h4 g j g1 g2 hj, t14]
  have w10 : ∀ g j, 48 ≤ g → g ≤ 50 → (¬ g = 49 ∨ ¬ j = n0 + 1) → (aiT T9 rr2).1 g j = T9.1 g j := fun g j _ _ hh => by
    by_cases c49 : g = 49
    · subst c49
      rw [am_49 er2 (by omega), if_neg (by omega)]
    · rw [am_o c49]
  have w9 : ∀ g j, 48 ≤ g → g ≤ 50 → j < q + 1 → T9.1 g j = T8.1 g j := fun g j g1 g2 hj => by
    obtain ⟨c', _, _, _, h4⟩ := j2.2.2.2.2.2.1 (q + 1) h518 (by omega)
    exact h4 g j g1 g2 hj
  have w8 : ∀ g j, 48 ≤ g → g ≤ 50 → j < q → T8.1 g j = T5.1 g j := fun g j g1 g2 hj => by
    obtain ⟨c', _, _, _, h4⟩ := k2.2.2.2.2.2.1 q h516 (by omega)
    rw [h4 g j g1 g2 hj, e6o g (by omega)]
  have w5 : ∀ g j, 48 ≤ g → g ≤ 50 → j < n0 + 2 → T5.1 g j = T2.1 g j := fun g j g1 g2 hj => by
    obtain ⟨c', _, _, _, h4⟩ := z5.2.2.2.2.2.1 (n0 + 2) h513 (by omega)
    rw [h4 g j g1 g2 hj, e3o g (by omega)]
  have w2 : ∀ g j, 48 ≤ g → g ≤ 50 → j < n0 + 1 → T2.1 g j = T.1 g j := fun g j g1 g2 hj => by
    obtain ⟨c', _, _, _, h4⟩ := m2.2.2.2.2.2.1 (n0 + 1) h51 (by omega)
    exact h4 g j g1 g2 hj
  have wA : ∀ g j, 48 ≤ g → g ≤ 50 → j < q → (¬ g = 49 ∨ ¬ j = n0 + 1) → T'.1 g j = T5.1 g j := fun g j g1 g2 hj hh => by
    rw [w20' g j g1 (by omega) (Or.inr (by omega)), w18 g j g1 g2 (by omega), w15 g j g1 g2 (by omega), w10 g j g1 g2 hh, w9 g j g1 g2 (by omega), w8 g j g1 g2 hj]
  have w4 : ∀ k, (41 ≤ k ∧ k ≠ 42) → k ≤ 45 → T'.1 k = T18.1 k := fun k _ _ => by rw [t3, am_o (by omega), e19o k (by omega)]
  have w45 : ∀ k, (41 ≤ k ∧ k ≠ 42) → k ≤ 45 → T18.1 k = T5.1 k := fun k _ _ => by rw [z18.o (by omega) (by omega), e16o k (by omega), l2.o (by omega), t14, am_o (by omega), j2.o (by omega), k2.o (by omega), e6o k (by omega)]
  have F5 : TyF S2 M T5 T' := ((u2.tr F6_14).tr F14_20).tr t2
  have F18 : TyF S6 M T18 T' := ((g2'.tr h2').tr t2)
  have e12 : M.1 12 = S2.1 12 := by
    have a := (fv37.on fvM).2.2.2.2.2.2
    rw [a, s381 12 (by omega)]
  have AA : AgK S2 M T5 T' (n0 + 2) q := ⟨F5, e12, fun k a b => by rw [w4 k a b, w45 k a b], fun g j g1 g2 j1 jj => wA g j g1 g2 jj (Or.inr (by omega))⟩
  have AB : AgK S6 M T18 T' (q + 3) n5 := ⟨F18, (fv7.on fvM).2.2.2.2.2.2, w4, fun g j g1 g2 j1 jj => w20' g j g1 (by omega) (Or.inr (by omega))⟩
  have lv20 : lvC (aiT T19 rr9) 16384 = lvC T19 16384 := lvC_62 (by rw [am_2]) (by rw [am_2]) 16384
  refine ⟨t1, (((F3.tr F6_14).tr F14_20).tr t2), ⟨n5, by rw [w20' 51 0 (by omega) (by omega) (Or.inl (by omega))]; exact f3, by omega, by omega, ?_⟩, by omega, (fv3.on fv37).on fvM⟩
  rw [KdS_n]
  unfold KsN
  rw [if_neg (by omega), if_neg (by omega), if_neg (by omega)]
  have cwx : ∀ (U V : gSt) (x : Nat), U.1 48 x = V.1 48 x → U.1 49 x = V.1 49 x → U.1 50 x = V.1 50 x → cw3 U x = cw3 V x := fun U V x h1 h2 h3 => by unfold cw3; rw [h1, h2, h3]
  refine ⟨by omega, ?_, ?_⟩
  · have : cw3 T' n0 = cw3 T n0 := cwx _ _ _ (by rw [wA 48 n0 (by omega) (by omega) (by omega) (Or.inl (by omega)), w5 48 n0 (by omega) (by omega) (by omega), w2 48 n0 (by omega) (by omega) (by omega)]) (by rw [wA 49 n0 (by omega) (by omega) (by omega) (Or.inr (by omega)), w5 49 n0 (by omega) (by omega) (by omega), w2 49 n0 (by omega) (by omega) (by omega)]) (by rw [wA 50 n0 (by omega) (by omega) (by omega) (Or.inl (by omega)), w5 50 n0 (by omega) (by omega) (by omega), w2 50 n0 (by omega) (by omega) (by omega)])
    rw [this]
    exact hrow
  rw [if_neg (by omega), if_neg (by omega), if_neg (by omega), if_neg (by omega), if_neg (by omega), if_neg (by omega), if_neg (by omega), if_neg (by omega), if_neg (by omega), if_pos rfl]
  refine ⟨q, by omega, by omega, ?_, ?_, ?_, ?_, ?_, ?_⟩
  · have r48 : T'.1 48 (n0 + 1) = 54 := by
      rw [wA 48 (n0 + 1) (by omega) (by omega) (by omega) (Or.inl (by omega)), w5 48 (n0 + 1) (by omega) (by omega) (by omega)]
      exact congrArg (·.1) row2
    have r50 : T'.1 50 (n0 + 1) = 0 := by
      rw [wA 50 (n0 + 1) (by omega) (by omega) (by omega) (Or.inl (by omega)), w5 50 (n0 + 1) (by omega) (by omega) (by omega)]
      exact congrArg (·.2.2) row2
    have r49 : T'.1 49 (n0 + 1) = nI (q + 2) := by
      rw [w20' 49 (n0 + 1) (by omega) (by omega) (Or.inr (by omega)), w18 49 (n0 + 1) (by omega) (by omega) (by omega), w15 49 (n0 + 1) (by omega) (by omega) (by omega), am_49 er2 (by omega), if_pos rfl]
      exact h519
    unfold cw3
    rw [r48, r49, r50]
  · have : cw3 T' q = cw3 T8 q := cwx _ _ _ (by rw [w20' 48 q (by omega) (by omega) (Or.inl (by omega)), w18 48 q (by omega) (by omega) (by omega), w15 48 q (by omega) (by omega) (by omega), w10 48 q (by omega) (by omega) (Or.inl (by omega)), w9 48 q (by omega) (by omega) (by omega)]) (by rw [w20' 49 q (by omega) (by omega) (Or.inr (by omega)), w18 49 q (by omega) (by omega) (by omega), w15 49 q (by omega) (by omega) (by omega), w10 49 q (by omega) (by omega) (Or.inr (by omega)), w9 49 q (by omega) (by omega) (by omega)]) (by rw [w20' 50 q (by omega) (by omega) (Or.inl (by omega)), w18 50 q (by omega) (by omega) (by omega), w15 50 q (by omega) (by omega) (by omega), w10 50 q (by omega) (by omega) (Or.inl (by omega)), w9 50 q (by omega) (by omega) (by omega)])
    rw [this]
    exact row8
  · have r48 : T'.1 48 (q + 1) = 50 := by
      rw [w20' 48 (q + 1) (by omega) (by omega) (Or.inl (by omega)), w18 48 (q + 1) (by omega) (by omega) (by omega), w15 48 (q + 1) (by omega) (by omega) (by omega), w10 48 (q + 1) (by omega) (by omega) (Or.inl (by omega))]
      exact congrArg (·.1) row9
    have r50 : T'.1 50 (q + 1) = 0 := by
      rw [w20' 50 (q + 1) (by omega) (by omega) (Or.inl (by omega)), w18 50 (q + 1) (by omega) (by omega) (by omega), w15 50 (q + 1) (by omega) (by omega) (by omega), w10 50 (q + 1) (by omega) (by omega) (Or.inl (by omega))]
      exact congrArg (·.2.2) row9
    have r49 : T'.1 49 (q + 1) = nI n5 := by
      rw [t3, am_49 er9 (by omega), if_pos rfl, e19o 51 (by omega)]
      exact f3
    unfold cw3
    rw [r48, r49, r50]
  · have : cw3 T' (q + 2) = cw3 T15 (q + 2) := cwx _ _ _ (by rw [w20' 48 (q + 2) (by omega) (by omega) (Or.inl (by omega)), w18 48 (q + 2) (by omega) (by omega) (by omega)]) (by rw [w20' 49 (q + 2) (by omega) (by omega) (Or.inr (by omega)), w18 49 (q + 2) (by omega) (by omega) (by omega)]) (by rw [w20' 50 (q + 2) (by omega) (by omega) (Or.inl (by omega)), w18 50 (q + 2) (by omega) (by omega) (by omega)])
    rw [this]
    exact row15
  · exact KdS.mo _ _ _ _ _ _ AA d6
  · exact KdS.mo _ _ _ _ _ _ AB f6
end ZSK
