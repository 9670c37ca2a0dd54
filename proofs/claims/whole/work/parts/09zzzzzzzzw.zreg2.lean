/-! a region STEP on both sides -/
section ZSE
variable {S S' S1 S2 T T' T1 T2 T3 : gSt} {X : Lx} {nf d it e v g n dd v' g' k i e' u c m lo hi a b n0 y z p q r j s f yv yx yr lr N m0 : Nat} {ta tb tr : Tr} {pl x op cc t x4 : Int32} {R : RgR} {nm w w2 : Int64} {bo : Bool} {zz : T5} {cd po : Nat → Nat}
theorem WX.fzs (h : WX X T) (hz : FZ T T') (h68 : T'.1 68 0 = T.1 68 0) (h70 : ∀ j, T'.1 70 j = T.1 70 j) (h72 : WR T') (h76 : ∃ c, T'.1 76 0 = nI c ∧ c ≤ 20) : WX X T' := by
  obtain ⟨a1, a2, ⟨n, a3, a3'⟩, _, ⟨u, a5, a5', a5''⟩, ⟨c, a6, a6'⟩, a7, _, a9⟩ := h
  have o := fun k a b => hz.o (k := k) a b
  refine ⟨a1.fz hz, hz.2.2.1, ⟨n, by rw [o 27 (by omega) (by omega)]; exact a3, a3'⟩, h72, ⟨u, by rw [h68]; exact a5, a5', fun j hj => ?_⟩, ?_, by rw [o 67 (by omega) (by omega), o 11 (by omega) (by omega), o 12 (by omega) (by omega), o 13 (by omega) (by omega)]; exact a7, h76, fun t ht => ?_⟩
  · obtain ⟨y, y1, y2⟩ := a5'' j hj
    exact ⟨y, by rw [h70]; exact y1, hz.2.2.2.1 y y2⟩
  · obtain ⟨c', b1, b2, b3, _⟩ := hz.2.2.2.2.2.1 c a6 a6'
    exact ⟨c', b1, b3⟩
  · obtain ⟨n, ⟨b1, b2, b3⟩, c1, ⟨y, c2, c3⟩, d1, w, e1, e2, e3⟩ := a9 t (by unfold itN at ht ⊢; rw [o 27 (by omega) (by omega)] at ht; exact ht)
    refine ⟨n, ⟨by rw [o 32 (by omega) (by omega)]; exact b1, b2, fun k hk => by rw [o 43 (by omega) (by omega)]; exact b3 k hk⟩, fun q hq => ?_, ⟨y, by rw [o 38 (by omega) (by omega)]; exact c2, hz.2.2.2.1 y c3⟩, by rw [o 31 (by omega) (by omega)]; exact d1, w, by rw [o 46 (by omega) (by omega)]; exact e1, e2, fun q hq => by rw [o 47 (by omega) (by omega)]; exact e3 q hq⟩
    obtain ⟨u, u1, u2⟩ := c1 q hq
    exact ⟨u, by rw [o 44 (by omega) (by omega)]; exact u1, hz.2.2.2.1 u u2⟩
theorem WZ.fzs {g1 dd1 : Nat} (h : WZ X T v g dd) (hz : FZ T T') (h68 : T'.1 68 0 = T.1 68 0) (h70 : ∀ j, T'.1 70 j = T.1 70 j) (h72 : ∃ m, T'.1 72 0 = nI (4 + m) ∧ m ≤ g1) (hg1 : g1 ≤ 8) (h76 : ∃ c, T'.1 76 0 = nI c ∧ c + 1 ≤ dd1) (hdd : dd1 ≤ 20) : WZ X T' v g1 dd1 := by
  obtain ⟨a1, ⟨u, a2, a2'⟩, a3, _, a5, _, ti, a7, a7'⟩ := h
  obtain ⟨m, m1, m2⟩ := h72
  obtain ⟨c, c1, c2⟩ := h76
  exact ⟨a1.fzs hz h68 h70 ⟨4 + m, m1, by omega, by omega⟩ ⟨c, c1, by omega⟩, ⟨u, by rw [h68]; exact a2, a2'⟩, a3, ⟨m, m1, m2⟩, hg1, ⟨c, c1, c2⟩, ti, by rw [hz.o (by omega) (by omega)]; exact a7, by unfold itN at a7' ⊢; rw [hz.o (by omega) (by omega)]; exact a7'⟩
theorem clQ_o (hk : k ≠ 72) : (clQ T m).1 k = T.1 k := by
  unfold clQ
  rw [sI_ne hk]
  rfl
theorem clQ_2 (hq : q ≠ 77) : (clQ T m).2 q j = T.2 q j := by
  unfold clQ
  show (sJ T 77 0 (sbW (flw T) (40 + m) false)).2 q j = _
  rw [rdJ, if_neg (fun z => hq z.1)]
theorem z_26 (hX : XO X) (hnf : 16385 ≤ nf) (hz : ∀ q, xK X q = 4 → ¬ xN X q = 0) (hA : Zb0 nf X it ta) : Zs2 nf X it (tD 26 i e' ta tb) := by
  intro T lo hi dd d a b v g v' g' ⟨p1, p2, p3, p4, p5, p6, p7, p8, p9, p10, p11⟩
  have hxn := hX.1
  rw [RcS_n] at p1
  unfold RsC at p1
  rw [if_neg (by omega), if_neg (by omega), if_neg (by omega)] at p1
  obtain ⟨q1, q2, q3⟩ := p1
  rw [if_neg (by omega), if_neg (by omega), if_neg (by omega), if_neg (by omega), if_neg (by omega), if_pos rfl] at q3
  obtain ⟨⟨r1, _⟩, r2, r3⟩ := q3
  rw [SG_n] at p4
  unfold sgN at p4
  rw [if_neg (by omega), if_neg (by omega), if_neg (by omega), if_neg (by omega), if_neg (by omega), if_neg (by omega), if_neg (by omega), if_neg (by omega), if_neg (by omega), if_pos rfl] at p4
  obtain ⟨s1, s2⟩ := p4
  rw [Ws_n] at p5
  unfold WsN at p5
  rw [if_neg (by omega), if_neg (by omega), if_neg (by omega), if_neg (by omega), if_neg (by omega), if_neg (by omega), if_neg (by omega), if_neg (by omega), if_neg (by omega), if_neg (by omega), if_pos rfl] at p5
  obtain ⟨w1, w2, w3⟩ := p5
  obtain ⟨wm1, wm2, wm3⟩ := Ws_mo _ _ _ _ _ _ _ _ w3
  obtain ⟨i31, e31, tl, tl2, eta, _, _⟩ := ws_2 w3
  have dd19 : dd + 1 ≤ 20 := by
    rw [eta, SG_n] at s2
    unfold sgN at s2
    rw [if_neg (by omega), if_pos rfl] at s2
    exact s2.2.2.2
  obtain ⟨d, rfl⟩ : ∃ g, d = g + 3 := ⟨d - 3, by omega⟩
  have zl : inb (nI lo) 4008 := nin (by omega) (by omega)
  have il : i + 1 < xn X := by
    refine Decidable.byContradiction fun w => ?_
    have := ((hX.2 (i + 1)).1 (by omega)).1
    omega
  obtain ⟨m0, e72, m0g⟩ := p7.2.2.2.1
  obtain ⟨u, hu, huv⟩ := p7.2.1
  obtain ⟨c76, h76, h76d⟩ := p7.2.2.2.2.2.1
  have v20 := p7.2.2.1
  have g8 := p7.2.2.2.2.1
  have ekw : kwS2 (tD 26 i e' ta tb) = kwS2 ta + 3 := rfl
  have elv : lvS2 X (tD 26 i e' ta tb) = lvS2 X ta := rfl
  have ebd : bdT (tD 26 i e' ta tb) = bdT ta := rfl
  have bd1 : 1 ≤ bdT ta := by rw [eta]; show 1 ≤ bdT tl + 1; omega
  have est : ∀ S, stS X it (tD 26 i e' ta tb) 0 0 0 S = rgC X (stS X it ta) i S := fun S => rfl
  rw [e_Steps_checkStep _ (d + 2)]
  unfold rb_Steps_checkStep
  rw [gd, if_pos zl, nc (by omega), r1, if_neg (by decide), if_neg (by decide), if_neg (by decide), if_neg (by decide), if_neg (by decide), if_neg (by decide), if_pos rfl, e_Steps_checkRegion _ (d + 1)]
  unfold rb_Steps_checkRegion
  rw [gd, if_pos zl, nc (by omega), q2, vK, nI_1, c_name hX p7.1.1 il, bis, c_findRegion (nf := nf) (d := d + 1) (n := 4 + m0) (by omega) e72 (by omega) (by omega) (by omega), bis]
  refine wp_bi (R := fun _ _ T' => FZ T T' ∧ FqZ T T' v' ∧ ∀ e n S n0, SrR X it e v g n S T → n + bdT (tD 26 i e' ta tb) ≤ 40 → T.1 51 0 = nI (n0 + 1) → cw3 T n0 = (1, nI (xP X (tkI (tD 26 i e' ta tb))), 0) → n0 + kwS2 (tD 26 i e' ta tb) ≤ 6032 → lvC T 16384 + lvS2 X (tD 26 i e' ta tb) + 30 < 16384 → cn (stS X it (tD 26 i e' ta tb) 0 0 0 S) < 6000 → ZO2 X it e v' g' n S T (tD 26 i e' ta tb) 0 0 0 n0 T') ?_ (fun r _ T' h => wp_some h)
  -- the region that is found
  have fnd : ∀ (e n : Nat) (S : gSt), SrR X it e v g n S T → (rgQ X S (i + 1) = -1 ∧ (if xN X (i + 1) = 72 then (0 : Int32) else ff (isRk T (xN X (i + 1))) 1 (4 + m0 - 1)) = -1) ∨ ∃ c k, rgQ X S (i + 1) = nI c ∧ RgE e S c k ∧ (if xN X (i + 1) = 72 then (0 : Int32) else ff (isRk T (xN X (i + 1))) 1 (4 + m0 - 1)) = nI k := fun e n S hR => by
    unfold rgQ
    by_cases c72 : xN X (i + 1) = 72
    · right
      rw [if_pos c72, if_pos c72]
      exact ⟨0, 0, rfl, Or.inl ⟨rfl, by omega⟩, rfl⟩
    · rw [if_neg c72, if_neg c72]
      obtain ⟨n', n1, n2, n3, n4⟩ := hR.xr.1.2.1
      have en : n' = 4 + m0 := nI_inj (by omega) (by omega) (by rw [← n1, ← e72])
      subst en
      rcases n4 _ (hz _ s1) c72 with ⟨a1, a2⟩ | ⟨c, k, a1, a2, a3, a4, a5⟩
      · exact Or.inl ⟨a1, a2⟩
      · exact Or.inr ⟨c, k, a1, a3, a2⟩
  -- the run
  have go : ∀ y0 : Int32, wp (rj_Steps_checkRegion_36 (PP nf (d + 1)) nf T (nI lo) (nI dd) (nI (i + 1)) y0) (fun _ _ T' => ∃ T1 T2 T3 T4, T1 = (if y0 = 0 then ntS T 2 (nI (xP X (i + 1))) else T) ∧ T2 = opT T1 (4 + m0) (xN X (i + 1)) ∧ FX T T1 ∧ FZ T1 T2 ∧ FX T2 T3 ∧ (∀ m, T2.1 51 0 = nI m → m < 6032 → T3 = emS T2 m 52 (nI (4 + m0)) 0) ∧ FZ T3 T4 ∧ ZlB X it T3 ta v (g + 1) v' g' 41 T4 ∧ FZ T4 T' ∧ FqZ T T' v' ∧ (if fb (flw T4) (40 + (4 + m0)) = true then ∃ T5, FX T4 T5 ∧ (∀ m, T4.1 51 0 = nI m → m < 6032 → T5 = emS T4 m 53 (nI (4 + m0)) 0) ∧ T' = clQ T5 (4 + m0) else T' = clQ T4 (4 + m0)) ∧ ∀ S, vn (stS X it ta 0 0 0 S) = vn S) := by
    intro y0
    unfold rj_Steps_checkRegion_36
    rw [c_start hX p7.1.1 (by omega), bis, c_dem (by omega), bis]
    have f1 : FX T (if y0 = 0 then ntS T 2 (nI (xP X (i + 1))) else T) := FX.dm p7.1.2.1
    generalize e1 : (if y0 = 0 then ntS T 2 (nI (xP X (i + 1))) else T) = T1 at f1 ⊢
    obtain ⟨W1, q1⟩ := p7.fx f1
    have h72 : T1.1 72 0 = nI (4 + m0) := by rw [f1.o (by omega)]; exact e72
    rw [c_name hX W1.1.1 il, bis, c_openRegion (nf := nf) (d := d + 1) (nm := xN X (i + 1)) h72 (by omega) (by omega), bis]
    show wp (bi (PP nf (d + 1) 51 (opT T1 (4 + m0) (xN X (i + 1))) [(52 : Int32), nI (4 + m0), (0 : Int32)] []) _) _
    obtain ⟨t72, t74, t73, tfl, t2⟩ := opT_v (T := T1) (m := 4 + m0) (nm := xN X (i + 1))
    have tO := fun k a b => opT_o (T := T1) (m := 4 + m0) (nm := xN X (i + 1)) (k := k) a b
    have z2 : FZ T1 (opT T1 (4 + m0) (xN X (i + 1))) := FZ.sc f1.2.2.1 (fun k hk => tO k (by omega) (by omega)) (fun q j _ a b => t2 q j a b) (by rw [tO 71 (by omega) (by omega)])
    have W2 : WZ X (opT T1 (4 + m0) (xN X (i + 1))) v (g + 1) (dd + 1) := W1.fzs z2 (by rw [tO 68 (by omega) (by omega)]) (fun j => by rw [tO 70 (by omega) (by omega)]) ⟨m0 + 1, by rw [t72]; rfl, by omega⟩ (by omega) ⟨c76, by rw [tO 76 (by omega) (by omega), f1.o (by omega)]; exact h76, by omega⟩ dd19
    generalize e2 : opT T1 (4 + m0) (xN X (i + 1)) = T2 at W2 z2 t72 t74 t73 tfl t2 tO ⊢
    obtain ⟨r4, T3, m1, m2, m3⟩ := a_emit (nf := nf) (d := d + 1) (T := T2) (x := 52) (y := nI (4 + m0)) (z := 0) W2.1.2.1 W2.1.2.2.2.2.2.1 (by omega)
    rw [m1, bis]
    obtain ⟨W3, q3⟩ := W2.fx m2
    have fz3 : FZ T T3 := (f1.fz.tr z2).tr m2.fz
    rw [gd, if_pos zl, nc (by omega), fz3.o (k := 17) (by omega) (by omega), r2, nI_1]
    refine wp_bi (hA T3 (lo + 1) hi (dd + 1) (d + 1) (a + 2) b v (g + 1) v' g' ⟨r3.fz fz3, by omega, p3, s2, w3, p6, W3, dd19, by omega, p10, p11⟩) ?_
    intro _ _ T4 ⟨z4, q4, c68, zB, evn⟩
    rw [c_isLive (by omega) (by omega), bis]
    have b68 : T4.1 68 0 = nI u := by rw [c68, m2.o (by omega), tO 68 (by omega) (by omega), f1.o (by omega)]; exact hu
    obtain ⟨y1, y2, y3, uu, u', y4, y5, y6, y7, y8, y9⟩ := q4
    have W4 : WX X T4 := W3.1.fzq z4 ⟨y1, y2, y3, uu, u', y4, y5, y6, y7, y8, y9⟩
    have fin : ∀ T5, FX T4 T5 → FZ T5 (clQ T5 (4 + m0)) ∧ FqZ T (clQ T5 (4 + m0)) v' := fun T5 f5 => by
      have z6 : FZ T5 (clQ T5 (4 + m0)) := FZ.sc f5.2.2.1 (fun k hk => clQ_o (by omega)) (fun q j _ _ b => clQ_2 b) (by rw [clQ_o (by omega)])
      refine ⟨z6, ?_⟩
      have eu' : u' = u := nI_inj (by omega) (by omega) (by rw [← y5, b68])
      subst eu'
      refine ⟨by unfold clQ; rw [sI_v, e72], ?_, ?_, u', u', hu, ?_, Nat.le_refl _, by omega, by omega, fun j hj => ?_⟩
      · rw [clQ_o (by omega), f5.o (by omega), y2, m2.o (by omega), tO 75 (by omega) (by omega), f1.o (by omega)]
      · rw [clQ_o (by omega), f5.o (by omega), y3, m2.o (by omega), tO 76 (by omega) (by omega), f1.o (by omega)]
      · rw [clQ_o (by omega), f5.o (by omega)]; exact b68
      · obtain ⟨y, x1, x2⟩ := y9 j hj
        exact ⟨y, by rw [clQ_o (by omega), f5.o (by omega)]; exact x1, z6.2.2.2.1 y (f5.2.2.2.1 y x2)⟩
    by_cases cl : fb (flw T4) (40 + (4 + m0)) = true
    · rw [if_pos cl, if_neg (by decide)]
      obtain ⟨r5, T5, n1, n2, n3⟩ := a_emit (nf := nf) (d := d + 1) (T := T4) (x := 53) (y := nI (4 + m0)) (z := 0) W4.2.1 W4.2.2.2.2.2.1 (by omega)
      rw [n1, bis, c_leaveRegion (nf := nf) (d := d + 1) (T := T5) (r := 4 + m0) (by omega) (by omega) (by omega), bis]
      obtain ⟨g1, g2⟩ := fin T5 n2
      refine wp_some ⟨T1, T2, T3, T4, rfl, e2.symm, f1, z2, m2, m3, z4, zB, n2.fz.tr g1, g2, ?_, evn⟩
      rw [if_pos cl]
      exact ⟨T5, n2, n3, rfl⟩
    · rw [if_neg cl, if_pos rfl, c_leaveRegion (nf := nf) (d := d + 1) (T := T4) (r := 4 + m0) (by omega) (by omega) (by omega), bis]
      obtain ⟨g1, g2⟩ := fin T4 (FX.rf z4.2.2.1)
      refine wp_some ⟨T1, T2, T3, T4, rfl, e2.symm, f1, z2, m2, m3, z4, zB, g1, g2, ?_, evn⟩
      rw [if_neg cl]
      rfl
  by_cases ck : ¬ (if xN X (i + 1) = 72 then (0 : Int32) else ff (isRk T (xN X (i + 1))) 1 (4 + m0 - 1)) = -1
  · rw [if_neg ck]
    refine wp_mono (go 0) ?_
    intro _ _ T' ⟨T1, T2, T3, T4, e1, e2, f1, z2, f3, _, z4, _, z5, fq, _, _⟩
    rw [if_pos rfl] at e1
    have zz : FZ T1 T' := ((z2.tr f3.fz).tr z4).tr z5
    refine ⟨f1.fz.tr zz, fq, fun e n S n0 hR hbd h51 hrow hn hl hc => Or.inl ?_⟩
    rw [est]
    rcases fnd e n S hR with ⟨a1, a2⟩ | ⟨c, k, a1, a2, a3⟩
    · exact absurd a2 ck
    · have := (RgE.lt a2).1
      unfold rgC
      rw [if_pos (by rw [a1]; exact nI0le (by omega))]
      have bf := bf_nt (S := S) (T := T) (p := nI (xP X (i + 1))) (a := 2) hR.1.2.2.2.1 hR.1.2.2.2.2.1 (by decide)
      rw [← e1] at bf
      exact bf.fz zz
  have ck := Decidable.of_not_not ck
  rw [if_pos ck]
  refine wp_mono (go 1) ?_
  intro _ _ T' ⟨T1, T2, T3, T4, e1, e2, f1, z2, f3, em3, z4, zB, z5, fq, hE, evn⟩
  rw [if_neg (by decide)] at e1
  subst e1
  refine ⟨f1.fz.tr (((z2.tr f3.fz).tr z4).tr z5), fq, fun e n S n0 hR hbd h51 hrow hn hl hc => ?_⟩
  unfold ZO2
  rw [ekw] at hn ⊢
  rw [elv] at hl ⊢
  rw [ebd] at hbd
  rw [est] at hc ⊢
  have n72 : ¬ xN X (i + 1) = 72 := fun w => by rw [if_pos w] at ck; exact absurd ck (by decide)
  have rq : rgQ X S (i + 1) = -1 := by
    rcases fnd e n S hR with ⟨a1, a2⟩ | ⟨c, k, a1, a2, a3⟩
    · exact a1
    · have := (RgE.lt a2).2
      rw [ck] at a3
      exact absurd a3.symm (nI_m1 (by omega))
  have eC : rgC X (stS X it ta) i S = rgL (stS X it ta 0 0 0 (rgO S (xN X (i + 1)))) (4 + S.1 86 0) := by
    unfold rgC
    rw [if_neg (by rw [rq]; decide)]
  rw [eC] at hc ⊢
  rw [if_neg n72] at ck
  have fr := (ff_all (p := isRk T1 (xN X (i + 1))) (i := 1) (k := 4 + m0 - 1) (by omega)).mp ck
  obtain ⟨mA, gA, nA, cdA, poA, hAA, _⟩ := hR.1.2.2.2.2.2.2.1
  have emA : mA = m0 := by
    have := nI_inj (a := 4 + mA) (b := 4 + m0) (by have := hAA.2.1; omega) (by omega) (by rw [← hAA.2.2.2.2.1, ← e72])
    omega
  have e3 := hAA.1
  have ern := hAA.2.2.1
  obtain ⟨m, hm1, hm2, o1, o2, o3, o4, o5⟩ := hR.opn (nm := xN X (i + 1)) (by omega) (by omega) ⟨hz _ s1, n72⟩ (fun a ha w => by
    rw [show rn S - e = m0 by omega] at ha
    exact fr a (by rcases ha with x | x <;> omega) (by rcases ha with x | x <;> omega) (decide_eq_true w))
  have em : m = m0 := by omega
  subst em
  rw [← e2] at o1 o2 o3 o4
  have h512 : T2.1 51 0 = nI (n0 + 1) := by rw [e2, opT_o (by omega) (by omega)]; exact h51
  have eT3 := em3 (n0 + 1) h512 (by omega)
  obtain ⟨b1, b2, b3⟩ := o1.em (a := 52) (b := nI (4 + m)) (z := 0) h512 (by omega)
  rw [← eT3] at b1 b2 b3
  have h513 : T3.1 51 0 = nI (n0 + 2) := by rw [eT3]; exact em_51
  have row3 : cw3 T3 (n0 + 1) = (52, nI (4 + m), 0) := by rw [eT3]; exact em_row
  have fL : FS (stS X it ta 0 0 0 (rgO S (xN X (i + 1)))) (rgL (stS X it ta 0 0 0 (rgO S (xN X (i + 1)))) (4 + S.1 86 0)) := FS.rgl
  have fA : FS (rgO S (xN X (i + 1))) (stS X it ta 0 0 0 (rgO S (xN X (i + 1)))) := st_fs ta 0 0 0 _
  have cA : cn (stS X it ta 0 0 0 (rgO S (xN X (i + 1)))) < 6000 := fL.lt (fA.tg o1.1.2.2.1.1.1) hc
  rcases zB e (n + 1) (rgO S (xN X (i + 1))) (n0 + 2) b1 (by omega) (by omega) h513 (by omega) (by omega) cA with bf | ⟨a1, a2, ⟨n1, a3, a4, a5, a6⟩, a7, a8⟩
  · left
    have : BfR (rgL (stS X it ta 0 0 0 (rgO S (xN X (i + 1)))) (4 + S.1 86 0)) T4 := by
      unfold BfR rgL dlS
      rw [sI_ne (by omega), sI_ne (by omega), sI_ne (by omega), sI_ne (by omega), sI_ne (by omega), sI_ne (by omega)]
      exact bf
    exact this.fz z5
  · right
    have F4 : TyF S (stS X it ta 0 0 0 (rgO S (xN X (i + 1)))) T1 T4 := (o2.tr b2).tr a2
    have ev2 : vn (stS X it ta 0 0 0 (rgO S (xN X (i + 1)))) = vn S := by
      rw [evn]
      unfold vn
      rw [rgO_o (by omega)]
    have hop : opR e S = 4 + m := by unfold opR; omega
    -- the code
    have code : ∀ (T5 : gSt) (n' : Nat), AgK (stS X it ta 0 0 0 (rgO S (xN X (i + 1)))) (rgL (stS X it ta 0 0 0 (rgO S (xN X (i + 1)))) (4 + S.1 86 0)) T4 T5 0 n1 → n1 ≤ n' → (if isLv (stS X it ta 0 0 0 (rgO S (xN X (i + 1)))) (4 + S.1 86 0) = 0 then n' = n1 else cw3 T5 n1 = (53, nI (4 + m), 0) ∧ n' = n1 + 1) → KdS X it e (rgL (stS X it ta 0 0 0 (rgO S (xN X (i + 1)))) (4 + S.1 86 0)) T5 (tD 26 i e' ta tb) 0 0 S n0 n' := fun T5 n' hk hle hif => by
      rw [KdS_n]
      unfold KsN
      rw [if_neg (by omega), if_neg (by omega), if_neg (by omega)]
      have A2 : AgK S (rgO S (xN X (i + 1))) T1 T2 0 (n0 + 1) := AgK.fz o2 (rgO_o (by omega)) z2 h51 (by omega) (Nat.le_refl _)
      have A3 : AgK (rgO S (xN X (i + 1))) (rgO S (xN X (i + 1))) T2 T3 0 (n0 + 1) := AgK.fz b2 rfl f3.fz h512 (by omega) (Nat.le_refl _)
      have A4 : AgK (rgO S (xN X (i + 1))) (stS X it ta 0 0 0 (rgO S (xN X (i + 1)))) T3 T4 0 (n0 + 2) := AgK.fz a2 a8.2.2.2.2.2.2 z4 h513 (by omega) (Nat.le_refl _)
      refine ⟨by omega, ?_, ?_⟩
      · rw [((((A2.tr A3)).tr (A4.sub (Nat.le_refl _) (by omega))).tr (hk.sub (Nat.le_refl _) (by omega))).rw (by omega) (by omega)]
        exact hrow
      · rw [if_neg (by omega), if_neg (by omega), if_neg (by omega), if_neg (by omega), if_neg (by omega), if_neg (by omega), if_neg (by omega), if_pos rfl, hop]
        refine ⟨n1, a4, hle, ?_, KdS.mo _ _ _ _ _ _ (hk.sub (by omega) (Nat.le_refl _)) a6, hif⟩
        rw [(A4.tr (hk.sub (Nat.le_refl _) (by omega))).rw (by omega) (by omega)]
        exact row3
    by_cases cl : fb (flw T4) (40 + (4 + m)) = true
    · rw [if_pos cl] at hE
      obtain ⟨T5, f5, em5, eT⟩ := hE
      have eT5 := em5 n1 a3 (by omega)
      obtain ⟨d1, d2, d3⟩ := a1.em (a := 53) (b := nI (4 + m)) (z := 0) a3 (by omega)
      rw [← eT5] at d1 d2 d3
      obtain ⟨k1, k2, k3, k4⟩ := d1.lev hR (F4.tr d2) a8 hm1 (by omega) ev2
      have fw5 : flw T5 = flw T4 := f5.fw
      rw [eT]
      refine ⟨k1, (F4.tr d2).tr k2, ⟨n1 + 1, by rw [clQ_o (by omega), eT5]; exact em_51, by omega, by omega, code _ _ ?_ (by omega) ?_⟩, ?_, k3⟩
      · have A5 : AgK (stS X it ta 0 0 0 (rgO S (xN X (i + 1)))) (stS X it ta 0 0 0 (rgO S (xN X (i + 1)))) T4 T5 0 n1 := AgK.fz d2 rfl f5.fz a3 (by omega) (Nat.le_refl _)
        exact A5.tr ⟨k2, fL.1 12 (by omega) (by omega) (by omega), fun k _ _ => clQ_o (by omega), fun g q _ _ _ _ => by rw [clQ_o (by omega)]⟩
      · rw [if_neg (fun w => by
          have := k4.mp w
          rw [fw5] at this
          rw [this] at cl
          cases cl)]
        refine ⟨?_, rfl⟩
        unfold cw3
        rw [clQ_o (by omega), clQ_o (by omega), clQ_o (by omega)]
        show cw3 T5 n1 = _
        rw [eT5]
        exact em_row
      · rw [lvC_62 (T := T5) (T' := clQ T5 (4 + m)) (by funext j; exact clQ_2 (by omega)) (by funext j; exact clQ_2 (by omega)) 16384]
        omega
    · rw [if_neg cl] at hE
      obtain ⟨k1, k2, k3, k4⟩ := a1.lev hR F4 a8 hm1 (by omega) ev2
      rw [hE]
      refine ⟨k1, F4.tr k2, ⟨n1, by rw [clQ_o (by omega)]; exact a3, by omega, by omega, code _ _ ?_ (Nat.le_refl _) ?_⟩, ?_, k3⟩
      · exact ⟨k2, fL.1 12 (by omega) (by omega) (by omega), fun k _ _ => clQ_o (by omega), fun g q _ _ _ _ => by rw [clQ_o (by omega)]⟩
      · rw [if_pos (k4.mpr (by simpa using cl))]
      · rw [lvC_62 (T := T4) (T' := clQ T4 (4 + m)) (by funext j; exact clQ_2 (by omega)) (by funext j; exact clQ_2 (by omega)) 16384]
        omega
end ZSE
