/-! a set STEP on both sides -/
section ZS9
variable {S S' T T' T1 T2 T3 : gSt} {X : Lx} {nf d it e v g n dd v' g' k i e' u c m lo hi a b n0 y z p q r j s f yv yx yr lr : Nat} {ta tb tr : Tr} {pl x op w cc t x4 : Int32} {R : RgR} {nm : Int64} {bo : Bool} {zz : T5}
/-- what holds a place: nothing else changes -/
theorem y_148 (hX : XO X) (hnf : 16385 ≤ nf) (hA : CE0 nf X ta) (hk : k = 3 ∨ k = 4) (hP : CeP X T (tD k i e ta tb) 0 lo hi z m dd d a b) : ∃ r l T1, PP nf (d + 1) 148 T [nI lo, nI z, nI dd] [] = some (r, l, T1) ∧ FX T T1 := by
  obtain ⟨p1, p2, p3, p4, p5, p6, p7, p8, p9⟩ := hP
  have hxn := hX.1
  rw [RcG_n] at p1
  unfold RcN Rc0 at p1
  rw [XG_n] at p6
  unfold xgN at p6
  rw [Wf_n] at p4
  unfold WfN at p4
  rw [if_neg (by omega), if_neg (by omega), if_neg (by omega), if_neg (by omega)] at p1
  rw [if_neg (by omega), if_neg (by omega), if_neg (by omega)] at p6
  rw [if_neg (by decide), if_neg (by omega), if_neg (by omega)] at p4
  have main : ∀ z' b', RcG X T ta 0 lo z z' → lkT T lo z' z → XG X ta m 0 → Wf X ta false a b' → b' ≤ xn X → z < 4008 → ∃ r l T1, PP nf (d + 1) 148 T [nI lo, nI z, nI dd] [] = some (r, l, T1) ∧ FX T T1 := by
    intro z' b' r3 r4 g1 f1 fb hz
    have lk : (if z' = 0 then T.1 18 lo else T.1 13 z') = nI z := by
      unfold lkT at r4
      split
      · rename_i c0
        rw [if_pos c0] at r4
        exact r4
      · rename_i c0
        rw [if_neg c0] at r4
        exact r4
    obtain ⟨r, l, T1, e1, y1, _, hq⟩ := hA.stop (d := d) hX hnf ⟨r3, p2, by omega, f1, fb, g1, p7, p8, p9⟩ (Or.inr (Nat.le_refl _)) hz lk
    exact ⟨r, l, T1, e1, hq.2.1⟩
  rcases hk with w | w
  · rw [if_pos w] at p1 p6 p4
    obtain ⟨r1, r2, ⟨z', r3, r4⟩, r5, r6⟩ := p1
    exact main z' i r3 r4 p6.1 p4.1 (by have := p4.2; omega) (by omega)
  · rw [if_neg (by omega), if_pos w] at p1 p6 p4
    obtain ⟨r1, r2, ⟨z', r3, r4⟩, r5, r6, r7, r8⟩ := p1
    obtain ⟨g0, g1, g2, g3⟩ := p6
    obtain ⟨f1, c, f2, f3⟩ := p4
    have le2 := (Wf_le _ false _ _ f2).1 rfl
    exact main z' i r3 r4 g1 f1 (by omega) (by omega)
/-- a store to a place that isn't a VAR -/
theorem y_sto1 (hX : XO X) (hw : WZ X T v g dd) (hk : k = 3 ∨ k = 4) (hb1 : ∀ S, chk X ta 0 0 S = chk X tr 0 0 S) (hb2 : tkd X ta = tkd X tr) (hb3 : kwT ta = kwT tr) (hb4 : lvT X ta = lvT X tr) (hb5 : plT X ta = plT X tr) (hwf : Wf X tr false a b) (hb : b ≤ xn X) (ht : tkd X tr = 14 ∨ tkd X tr = 15 ∨ tkd X tr = 16) (hyr : tyY T yr) (hbg : ∀ T', FX T T' → ∀ d', 2 ≤ d' → PP nf d' 33 T' [nI lr] [] = some (plT X tb, 0, T')) (hd : 8 ≤ d) (y1 y2 : Nat) (T2 : gSt) (h : PlP X T tr 2 y1 y2 T2) : wp (bi (PP nf d 141 T2 [nI yr, nI y2, nI lr] []) fun _ _ T24 => some ((0 : Int32), (0 : Int64), T24)) (fun _ _ T' => FZ T T' ∧ FqZ T T' v ∧ StO X T ta tb v g yr T') := by
  have hxn := hX.1
  obtain ⟨d, rfl⟩ : ∃ g, d = g + 1 := ⟨d - 1, by omega⟩
  obtain ⟨h1, h2, fx, h4⟩ := h
  obtain ⟨W2, q2⟩ := hw.fx fx
  obtain ⟨o, g1, g2⟩ := y_dfit (nf := nf) (d := d) W2.1 (fx.2.2.2.1 yr hyr) h2 (hbg T2 fx d (by omega)) (by omega)
  rw [g1, bis]
  have fx3 : FX T2 (fiS T2 yr y2 o (plT X tb)) := FX.fi fx.2.2.1
  refine wp_some ⟨(fx.tr fx3).fz, (hw.fx (fx.tr fx3)).2, fun it e n S x f m hR hx h51 hm hl hc => ?_⟩
  have n4 : ¬ tkd X ta = 4 := by rw [hb2]; omega
  have es : stoS X ta tb x S = ftS (tgD (chk X tr 0 0 S).2.2.2 (decide (tkd X tr = 14)) (chk X tr 0 0 S).2.1) x (chk X tr 0 0 S).1 (plT X tb) := by
    unfold stoS
    rw [if_neg n4, hb2, if_pos ht, hb1]
  rw [es] at hc ⊢
  rw [hb3] at hm ⊢
  rw [hb4] at hl ⊢
  rw [hb1] 
  have fA : FE S (chk X tr 0 0 S).2.2.2 := chk_fe tr 0 0 S
  have gA := fA.tg hR.1.2.2.1.1.1
  have fT : FE (chk X tr 0 0 S).2.2.2 (tgD (chk X tr 0 0 S).2.2.2 (decide (tkd X tr = 14)) (chk X tr 0 0 S).2.1) := FE.td
  have cT : cn (tgD (chk X tr 0 0 S).2.2.2 (decide (tkd X tr = 14)) (chk X tr 0 0 S).2.1) < 6000 := (FE.ft : FE (tgD (chk X tr 0 0 S).2.2.2 (decide (tkd X tr = 14)) (chk X tr 0 0 S).2.1) _).lt (fT.tg gA) hc
  have cA : cn (chk X tr 0 0 S).2.2.2 < 6000 := fT.lt gA cT
  rcases h4 (RgE e S) (slF S) S m hR.xr ⟨h51, by omega, by omega, cA⟩ with bf | ⟨h0, un, hun, q⟩
  · left
    have e1 : tgD (chk X tr 0 0 S).2.2.2 (decide (tkd X tr = 14)) (chk X tr 0 0 S).2.1 = (chk X tr 0 0 S).2.2.2 := by unfold tgD; rw [if_neg (fun w => bf.1 w.1)]
    rw [e1, ftS_er_bad bf.1]
    exact bf.fx fx3
  · have et : tgD (chk X tr 0 0 S).2.2.2 (decide (tkd X tr = 14)) (chk X tr 0 0 S).2.1 = plE 2 un (plT X tr) (chk X tr 0 0 S).2.2.2 := by
      unfold tgD plE
      by_cases c : un = true
      · have := hun.mp c
        rw [if_pos ⟨h0, decide_eq_true this.1, this.2⟩, if_pos c, if_neg (show ¬ 2 = 1 by omega), if_pos rfl]
      · rw [if_neg c, if_neg (fun w => c (hun.mpr ⟨of_decide_eq_true w.2.1, w.2.2⟩))]
    rw [et] at hc cT fT ⊢
    rcases q with bf | ⟨v1, v2, ⟨h2', v3⟩, ⟨h1', v4⟩, ⟨js, l, v5, v6, v7, v8, v9, v10⟩, v11, v12⟩
    · left
      rw [ftS_er_bad bf.1]
      exact bf.fx fx3
    · have iv := (chk_inv tr false a b 0 0 S ⟨hwf, by omega⟩ hR.1.2.2.1.1 (fun w => by cases w) cA).2 h0 rfl
      have tv : tV (chk X tr 0 0 S).2.2.2 (chk X tr 0 0 S).1 := by
        rcases ht with w | w | w
        · obtain ⟨_, _, _, _, _, q⟩ := iv.2 (Or.inl w); exact q
        · obtain ⟨_, _, _, _, _, q⟩ := iv.2 (Or.inr w); exact q
        · exact iv_ca tr a b S hwf (by omega) hR.1.2.2.1.1 cA h0 w
      have tn : ¬ (chk X tr 0 0 S).1 = -1 ∧ ¬ (chk X tr 0 0 S).1 = -2 := by
        rcases tv with w | ⟨p, w, w1, w2⟩
        · rw [w]; exact ⟨by decide, by decide⟩
        · rw [w]
          have := nIpos w1 (show p < 100000 by omega)
          exact ⟨fun q => by rw [q] at this; exact absurd this (by decide), fun q => by rw [q] at this; exact absurd this (by decide)⟩
      rcases fits_b (pl := plT X tb) v1 (TyR.mo v2 (fun _ _ z => z) _ _ _ hx) v3 tn.1 tn.2 g2 with ⟨s4, s5⟩ | bf
      · rw [s4, s5]
        have fe := fA.tr fT
        refine Or.inr ⟨hR.ex v1 v2 fe fx, v2, AgK.fx v2 (fe.1 12 (by omega)) fx h51 (by omega) (Nat.le_refl _), by omega, m + (ksE js).length + 1, v7, by omega, by omega, ?_⟩
        rw [if_neg n4]
        exact ⟨js, l, un, v5, v8, v10, rfl⟩
      · exact Or.inl bf
theorem y_store (hX : XO X) (hnf : 16385 ≤ nf) (hz : ∀ q, xK X q = 4 → ¬ xN X q = 0) (hw : WZ X T v g dd) (h4 : ¬ tkd X ta = 4) (h : cRX T (RcG X T ta) lo hi) (hl : 1 ≤ lo) (hh : hi ≤ 4008) (hg : XG X ta (19 - dd) 1) (hdd : dd ≤ 19) (hwf : Wf X ta false a b) (hb : b ≤ xn X) (hyr : tyY T yr) (hbg : ∀ T', FX T T' → ∀ d', 2 ≤ d' → PP nf d' 33 T' [nI lr] [] = some (plT X tb, 0, T')) (hd : 8 * (19 - dd) + 130 ≤ d) : wp (PP nf d 172 T [nI lo, nI yr, nI lr, nI (dd + 1)] []) (fun _ _ T' => FZ T T' ∧ FqZ T T' v ∧ StO X T ta tb v g yr T') := by
  have hxn := hX.1
  obtain ⟨d, rfl⟩ : ∃ g, d = g + 2 := ⟨d - 2, by omega⟩
  obtain ⟨b1, ⟨a', b', b2, b2'⟩, b3, b4, b5, b6, b7, k', i', e', ta', tb', b8, b9⟩ := br_all ta (19 - dd) 1 _ _ (by omega) hg hwf
  obtain ⟨lo', l1, l2, l3, l4⟩ := c_bare (nf := nf) (d := d + 1) hX hnf h hl hh hg (by omega) (by omega)
  have zl' : inb (nI lo') 4008 := nin (by omega) (by omega)
  have epl : plT X ta = plT X (brT ta) := by unfold plT; rw [b5]
  have elf : lfI ta = lfI (brT ta) := lf_br ta
  rw [b8] at l4 b1 b2 b3 b4 b5 b6 b7 epl elf
  have l4' := l4
  obtain ⟨yb, l5, l6⟩ := l4'
  have bb : ∀ T', FX T T' → PP nf (d + 1) 33 T' [nI lo'] [] = some (plT X (tD k' i' e' ta' tb'), 0, T') := fun T' f => x_begin (nf := nf) (d := d + 1) hX hnf (hw.1.fx f).1 (l5.fx f) hh b1 (by omega) b2 (by omega) (by omega)
  rw [e_Exprs_storePlace _ (d + 1)]
  unfold rb_Exprs_storePlace
  rw [l3, bis]
  -- no place
  have bad : ¬ tkd X ta = 4 → ¬ (tkd X ta = 14 ∨ tkd X ta = 15 ∨ tkd X ta = 16) → wp (bi (PP nf (d + 1) 33 T [nI lo'] []) fun r12 _ T12 => bi (PP nf (d + 1) 47 T12 [(4 : Int32), r12] []) fun _ _ T13 => some ((0 : Int32), (0 : Int64), T13)) (fun _ _ T' => FZ T T' ∧ FqZ T T' v ∧ StO X T ta tb v g yr T') := fun h4 h5 => by
    have f1 : FX T (ntS T 4 (plT X (tD k' i' e' ta' tb'))) := FX.nt hw.1.2.1
    rw [bb T (FX.rf hw.1.2.1), bis, c_note (by omega), bis]
    refine wp_some ⟨f1.fz, (hw.fx f1).2, fun it e n S x f m hR hx h51 hm hl hc => Or.inl ?_⟩
    unfold stoS
    rw [if_neg h4, if_neg h5, epl]
    exact bf_nt (a := 4) hR.1.2.2.2.1 hR.1.2.2.2.2.1 (by decide)
  rcases cRX.br hX l4 (by omega) hh with ⟨n5, w0, z1, w1, w2⟩ | ⟨k5, w, w1, w2, w3⟩
  · obtain ⟨q1, q2, q3, q4⟩ := Rc_lf hX w1 w2 b1 (by omega) hh b9
    have le1 := (Rc_le _ 0 _ _ _ (by omega) w1).1 rfl
    rw [c_lastT (nf := nf) (d := d + 1) hX hnf (by omega) hh w1 w2 b2 (by omega) (by omega), bis, gd, if_pos zl', nc (by omega), if_pos w0]
    have zz1 : inb (nI z1) 4008 := nin (by omega) (by omega)
    have b1' : XG X (tD k' i' e' ta' tb') (19 - dd) 0 := by
      rw [XG_n] at b1 ⊢
      unfold xgN at b1 ⊢
      rw [if_neg (by omega)] at b1 ⊢
      simp only [n5, if_false] at b1 ⊢
      exact b1
    have hP : CeP X T (tD k' i' e' ta' tb') 0 lo' hi z1 (19 - dd) (dd + 1) d a' b' := ⟨w1, by omega, hh, b2, by omega, b1', by omega, by omega, hw.1⟩
    have kd11 : ¬ k' = 3 → ¬ k' = 4 → z1 = 0 := fun h3 h4 => by
      have o2' := w1
      rw [RcG_n] at o2'
      unfold RcN at o2'
      rw [if_neg (by omega), if_neg (by omega)] at o2'
      unfold Rc0 at o2'
      by_cases c1 : k' = 1
      · rw [if_pos c1] at o2'; exact o2'.2.1
      rw [if_neg c1, if_neg b9, if_neg h3, if_neg h4] at o2'
      by_cases c6 : k' = 6
      · rw [if_pos c6] at o2'; exact o2'.2.1
      rw [if_neg c6] at o2'
      by_cases c7 : k' = 7
      · rw [if_pos c7] at o2'; exact o2'.2.1
      rw [if_neg c7] at o2'
      by_cases c8 : k' = 8
      · rw [if_pos c8] at o2'; exact o2'.2.1
      rw [if_neg c8] at o2'
      by_cases c9 : k' = 9
      · rw [if_pos c9] at o2'; exact o2'.2.1
      rw [if_neg c9] at o2'
      exact o2'.elim
    have tkk := tkd_n (X := X) (k := k') (i := i') (e := e') (ta := ta') (tb := tb')
    by_cases c34 : k' = 3 ∨ k' = 4
    · have z0 : ¬ z1 = 0 := fun w => by
        have o2' := w1
        rw [RcG_n] at o2'
        unfold RcN Rc0 at o2'
        rw [if_neg (by omega), if_neg (by omega), if_neg (by omega), if_neg (by omega)] at o2'
        rcases c34 with c | c
        · rw [if_pos c] at o2'; have := o2'.1; omega
        · rw [if_neg (by omega), if_pos c] at o2'; have := o2'.1; omega
      have z0' : ¬ nI z1 = (0 : Int32) := fun w => z0 (nI_inj (a := z1) (b := 0) (by omega) (by omega) w)
      rw [if_neg z0', gd, if_pos zz1, nc (by omega)]
      obtain ⟨r1, ll1, T1, e1, f1⟩ := y_148 (nf := nf) (d := d) hX hnf (ce0 hX hnf hz ta') c34 hP
      rcases c34 with c | c
      · subst c
        have k11 : T.1 11 z1 = nI (xK X i') := by
          have o2' := w1
          rw [RcG_n] at o2'
          unfold RcN Rc0 at o2'
          rw [if_neg (by omega), if_neg (by omega), if_neg (by omega), if_neg (by omega), if_pos rfl] at o2'
          exact o2'.2.2.2.1
        have xl := (hX.2 i').2
        have q33 : (nI (xK X i') = (33 : Int32)) = (xK X i' = 33) := ci_eq (j := 33) (by omega) (by omega)
        have xk : xK X i' = 61 ∨ xK X i' = 49 ∨ xK X i' = 33 := by
          have b1'' := b1
          rw [XG_n] at b1''
          unfold xgN at b1''
          rw [if_neg (by omega), if_neg (by omega), if_neg (by omega), if_pos rfl] at b1''
          omega
        rw [k11]
        rw [if_neg (by omega), if_neg (by omega), if_pos rfl] at tkk
        by_cases c33 : xK X i' = 33
        · rw [if_pos (q33.mpr c33)]
          rw [if_neg (by omega), if_neg (by omega)] at tkk
          exact bad (by rw [b4, tkk]; omega) (by rw [b4, tkk]; omega)
        · rw [if_neg (fun w => c33 (q33.mp w))]
          have xk' : xK X i' = 49 ∨ xK X i' = 61 := by omega
          have ht : tkd X (tD 3 i' e' ta' tb') = 14 ∨ tkd X (tD 3 i' e' ta' tb') = 15 ∨ tkd X (tD 3 i' e' ta' tb') = 16 := by
            rw [tkk]
            rcases xk' with w | w
            · rw [if_pos w]; omega
            · rw [if_neg (by omega), if_pos w]; omega
          have main := y_pl3 (d := d) (u := 2) hX hnf (ce0 hX hnf hz ta') xk' (Or.inr rfl) hP (K := fun _ r23 T23 => bi (PP nf (d + 1) 141 T23 [nI yr, r23, nI lr] []) fun _ _ T24 => some ((0 : Int32), (0 : Int64), T24)) (fun y1 y2 T2 hp => y_sto1 (d := d + 1) (k := 3) hX hw (Or.inl rfl) b3 b4 b6 b7 epl b2 (by omega) ht hyr hbg (by omega) y1 y2 T2 hp)
          rw [e1, bis] at main
          rw [e1, bis, bb T1 f1, bis]
          exact main
      · subst c
        have k11 : T.1 11 z1 = 44 := by
          have o2' := w1
          rw [RcG_n] at o2'
          unfold RcN Rc0 at o2'
          rw [if_neg (by omega), if_neg (by omega), if_neg (by omega), if_neg (by omega), if_neg (by omega), if_pos rfl] at o2'
          exact o2'.2.2.2.1
        rw [k11, if_neg (by decide)]
        have ht : tkd X (tD 4 i' e' ta' tb') = 14 ∨ tkd X (tD 4 i' e' ta' tb') = 15 ∨ tkd X (tD 4 i' e' ta' tb') = 16 := Or.inr (Or.inl rfl)
        have main := y_pl4 (d := d) (u := 2) hX hnf (ce0 hX hnf hz ta') (ce1 hX hnf hz tb') (Or.inr rfl) hP (K := fun _ r23 T23 => bi (PP nf (d + 1) 141 T23 [nI yr, r23, nI lr] []) fun _ _ T24 => some ((0 : Int32), (0 : Int64), T24)) (fun y1 y2 T2 hp => y_sto1 (d := d + 1) (k := 4) hX hw (Or.inr rfl) b3 b4 b6 b7 epl b2 (by omega) ht hyr hbg (by omega) y1 y2 T2 hp)
        rw [e1, bis] at main
        rw [e1, bis, bb T1 f1, bis]
        exact main
    · have z0 := kd11 (fun w => c34 (Or.inl w)) (fun w => c34 (Or.inr w))
      have f18 : T.1 18 lo' = 0 := by unfold fnT at w2; rw [if_pos z0] at w2; exact w2
      have tn := tk_no (X := X) (i := i') (e := e') (ta := ta') (tb := tb') (fun w => c34 (Or.inl w)) (fun w => c34 (Or.inr w)) b9
      have t16 : ¬ tkd X (tD k' i' e' ta' tb') = 16 := by
        rw [tkk, if_neg b9, if_neg (fun w => c34 (Or.inl w)), if_neg (fun w => c34 (Or.inr w)), if_neg n5]
        repeat' split
        all_goals omega
      rw [z0, if_pos (show nI 0 = (0 : Int32) from rfl)]
      exact bad h4 (by rw [b4]; exact fun w => by rcases w with w | w | w; exact tn (Or.inl w); exact tn (Or.inr w); exact t16 w)
  · subst k5
    have o := (Rc_13 _ lo' hi yb (by omega) l5).2
    obtain ⟨h1, z1, o2, o3, o4⟩ := o
    obtain ⟨bf, u1, u2⟩ := Wf_fs _ _ _ b2
    have le1 := (Rc_le _ 0 _ _ _ (by omega) o2).1 rfl
    rw [c_lastT (nf := nf) (d := d + 1) hX hnf (by omega) (by omega) o2 o4 u1 (by omega) (by omega), bis, gd, if_pos zl', nc (by omega), if_neg (show ¬ T.1 13 lo' = 0 from fun v => by
      rw [w3] at v
      have := nI_inj (b := 0) (by omega) (by omega) v
      omega)]
    exact bad (by rw [b4, tkd_5]; omega) (by rw [b4, tkd_5]; omega)
/-- a store to a VAR -/
theorem y_stoV (hX : XO X) (hnf : 16385 ≤ nf) (hw : WZ X T v g dd) (hg : XG X ta (19 - dd) 1) (hwf : Wf X ta false a b) (h4 : tkd X ta = 4) (hi : lfI ta < xn X) (hyr : tyY T yr) (hbg : ∀ T', FX T T' → ∀ d', 2 ≤ d' → PP nf d' 33 T' [nI lr] [] = some (plT X tb, 0, T')) (hd : 12 ≤ d) : wp (PP nf d 173 T [nI (lfI ta), nI yr, nI lr] []) (fun _ _ T' => FZ T T' ∧ FqZ T T' v ∧ StO X T ta tb v g yr T') := by
  obtain ⟨b1, ⟨a', b', b2, b2'⟩, b3, b4, b5, b6, b7, k', i', e', ta', tb', b8, b9⟩ := br_all ta (19 - dd) 1 _ _ (by omega) hg hwf
  have elf : lfI ta = lfI (brT ta) := lf_br ta
  rw [b8] at b4 b5 b6 elf
  have tkk := tkd_n (X := X) (k := k') (i := i') (e := e') (ta := ta') (tb := tb')
  have k1 : k' = 1 := by
    refine Decidable.byContradiction fun w => ?_
    have t4 : tkd X (tD k' i' e' ta' tb') = 4 := by rw [← b4]; exact h4
    rw [tkk, if_neg b9, if_neg w] at t4
    revert t4
    repeat' split
    all_goals omega
  exact y_sto0 (nf := nf) (tb := tb) hX hnf hw h4 hi (by rw [b6, k1]; exact Nat.le_refl _) (by rw [b5, elf, k1]; rfl) hyr hbg hd
theorem z_29 (hX : XO X) (hnf : 16385 ≤ nf) (hz : ∀ q, xK X q = 4 → ¬ xN X q = 0) : Zs0 nf X it (tD 29 i e' ta tb) := by
  intro T lo hi dd d a b v g v' g' ⟨p1, p2, p3, p4, p5, p6, p7, p8, p9, p10, p11⟩
  have hxn := hX.1
  rw [RcS_n] at p1
  unfold RsC at p1
  rw [if_neg (by omega), if_neg (by omega), if_neg (by omega)] at p1
  obtain ⟨q1, q2, q3⟩ := p1
  rw [if_neg (by omega), if_neg (by omega), if_neg (by omega), if_neg (by omega), if_neg (by omega), if_neg (by omega), if_neg (by omega), if_neg (by omega), if_pos rfl] at q3
  obtain ⟨r1, r2, c0, r3, r4, r5, r6, r7⟩ := q3
  rw [SG_n] at p4
  unfold sgN at p4
  rw [if_neg (by omega), if_neg (by omega), if_neg (by omega), if_neg (by omega), if_neg (by omega), if_neg (by omega), if_neg (by omega), if_neg (by omega), if_pos rfl] at p4
  obtain ⟨sa, sb⟩ := p4
  rw [Ws_n] at p5
  unfold WsN at p5
  rw [if_neg (by omega), if_neg (by omega), if_neg (by omega), if_neg (by omega), if_neg (by omega), if_neg (by omega), if_neg (by omega), if_neg (by omega), if_neg (by omega), if_pos rfl] at p5
  obtain ⟨w1, ev, eg, c, c2, wa, wb, w3⟩ := p5
  have ev := ev.symm
  have eg := eg.symm
  subst ev eg
  have leb := (Wf_le _ false _ _ wb.1).1 rfl
  obtain ⟨d, rfl⟩ : ∃ g, d = g + 4 := ⟨d - 4, by omega⟩
  have zl : inb (nI lo) 4008 := nin (by omega) (by omega)
  have ekw : kwS2 (tD 29 i e' ta tb) = kwT ta + kwT tb + 1 := rfl
  have elv : lvS2 X (tD 29 i e' ta tb) = lvT X ta + lvT X tb := rfl
  have est : ∀ S, stS X it (tD 29 i e' ta tb) 0 0 0 S = seC X ta tb S := fun S => rfl
  obtain ⟨zz, hP, h13⟩ := ZsP.ce (d := d + 2) (lo := c0) p7 r7 (by omega) p3 sb wb.1 (by omega) (by omega)
  rw [e_Steps_checkStep _ (d + 3)]
  unfold rb_Steps_checkStep
  rw [gd, if_pos zl, nc (by omega), r1, if_neg (by decide), if_neg (by decide), if_neg (by decide), if_neg (by decide), if_neg (by decide), if_neg (by decide), if_neg (by decide), if_neg (by decide), if_neg (by decide), if_neg (by decide), if_neg (by decide), if_neg (by decide), if_neg (by decide), if_neg (by decide), if_neg (by decide), if_neg (by decide), if_neg (by decide), if_neg (by decide), if_neg (by decide), if_neg (by decide), if_neg (by decide), if_neg (by decide), if_neg (by decide), if_neg (by decide), if_neg (by decide), if_neg (by decide), if_neg (by decide), if_neg (by decide), if_neg (by decide), if_neg (by decide), if_neg (by decide), if_neg (by decide), if_neg (by decide), if_neg (by decide), if_neg (by decide), if_pos rfl, gd, if_pos zl, r6, vK, nI_1]
  refine wp_bi ((ce1 hX hnf hz tb).run hnf hX hP (by omega) h13) ?_
  intro r3' _ T3 ⟨yr, eyr, hq⟩
  obtain ⟨pp1, pp2, pp3, pp4, pp5, pp6, pp7, pp8, pp9⟩ := hP
  have fx3 := hq.2.1
  obtain ⟨W3, fq3⟩ := p7.fx fx3
  rw [gd, if_pos zl, fx3.o (k := 16) (by omega), r2, eyr]
  have bb : ∀ T', FX T3 T' → ∀ d', 2 ≤ d' → PP nf d' 33 T' [nI c0] [] = some (plT X tb, 0, T') := fun T' f d' hd' => x_begin (nf := nf) (d := d') hX hnf (W3.1.fx f).1 (pp1.fx (fx3.tr f)) pp3 pp6 (by omega) pp4 pp5 hd'
  obtain ⟨na1, na2⟩ := c_nmA (nf := nf) (d := d + 3) hX hnf (cRX.fz r5 fx3.fz) sa.1 (by omega) (by omega) (by omega) wa.1 (by omega)
  rw [na1, bis]
  have both : wp (if (if tkd X ta = 4 then nI (lfI ta) else (-1 : Int32)) = -1 then (gd (inb (nI lo) 4008) <| bi (PP nf (d + 3) 172 T3 [T3.1 16 lo, nI yr, nI c0, nI (dd + 1)] []) fun _ _ T60 => some ((0 : Int32), (0 : Int64), T60)) else (bi (PP nf (d + 3) 173 T3 [if tkd X ta = 4 then nI (lfI ta) else -1, nI yr, nI c0] []) fun _ _ T58 => some ((0 : Int32), (0 : Int64), T58))) (fun _ _ T' => FZ T3 T' ∧ FqZ T3 T' v ∧ StO X T3 ta tb v g yr T') := by
    by_cases t4 : tkd X ta = 4
    · have ul := K_lt hX (na2 t4) (by omega)
      have n1 : ¬ nI (lfI ta) = -1 := fun w => by
        have := nzI (q := lfI ta) (by omega)
        rw [w] at this
        exact this (by decide)
      simp only [if_pos t4, if_neg n1]
      refine wp_bi (y_stoV (nf := nf) (d := d + 3) (lr := c0) (yr := yr) (tb := tb) hX hnf W3 sa.1 wa.1 t4 ul hq.1 bb (by omega)) ?_
      intro _ _ T' h
      exact wp_some h
    · rw [if_neg t4, if_pos (show (-1 : Int32) = -1 from rfl), gd, if_pos zl, fx3.o (k := 16) (by omega), r2]
      refine wp_bi (y_store (nf := nf) (d := d + 3) (lr := c0) (yr := yr) (tb := tb) hX hnf hz W3 t4 (cRX.fz r5 fx3.fz) (by omega) (by omega) sa.1 sa.2 wa.1 (by omega) hq.1 bb (by omega)) ?_
      intro _ _ T' h
      exact wp_some h
  refine wp_mono both ?_
  intro _ _ T' ⟨z1, z2, z3⟩
  refine ⟨fx3.fz.tr z1, fq3.tr z2, fun e n S n0 hR hbd h51 hrow hn hl hc => ?_⟩
  unfold ZOk
  rw [ekw] at hn ⊢
  rw [elv] at hl ⊢
  rw [est S] at hc ⊢
  have fB : FE S (chk X tb 0 0 S).2.2.2 := chk_fe tb 0 0 S
  have gB := fB.tg hR.1.2.2.1.1.1
  have eC : seC X ta tb S = if (chk X tb 0 0 S).2.2.2.1 7 0 = 0 then stoS X ta tb (chk X tb 0 0 S).1 (chk X tb 0 0 S).2.2.2 else (chk X tb 0 0 S).2.2.2 := rfl
  rw [eC] at hc ⊢
  have fS : ∀ U : gSt, cn (stoS X ta tb (chk X tb 0 0 S).1 U) < 6000 → Tg U → cn U < 6000 := fun U h hg => by
    unfold stoS at h
    split at h
    · split at h
      · unfold svS at h
        split at h
        · rw [cn_gv] at h; exact (FE.ft : FE U _).lt hg h
        · exact (FE.ft : FE U _).lt hg h
      · rw [cn_fl] at h; exact h
    · split at h
      · have f1 : FE U (chk X ta 0 0 U).2.2.2 := chk_fe ta 0 0 U
        exact (f1.tr (FE.td.tr FE.ft)).lt hg h
      · rw [cn_fl] at h; exact h
  have cB : cn (chk X tb 0 0 S).2.2.2 < 6000 := by
    split at hc
    · exact fS _ hc gB
    · exact hc
  rcases hR.xq fx3 (hq.2.2 _ _ S (n0 + 1) hR.xr ⟨h51, by omega, by omega, cB⟩) with bf | ⟨a1, a2, ⟨h, a3⟩, ⟨m', a4, a5, a6⟩, a7⟩
  · left
    rw [if_neg bf.1]
    exact bf.fz z1
  · have h0 := a1.1.2.2.2.1
    rw [if_pos h0] at hc ⊢
    have Rq : RgE e (chk X tb 0 0 S).2.2.2 = RgE e S := RgE_eq (by rw [fB.1 71 (by omega)]) (fB.1 73 (by omega))
    rcases z3 it e n (chk X tb 0 0 S).2.2.2 (chk X tb 0 0 S).1 h m' a1 (by rw [Rq]; exact a3) a4 (by omega) (by omega) hc with bf | ⟨c1, c3, c4, c5, n', c6, c7, c8, c9⟩
    · exact Or.inl bf
    · refine Or.inr ⟨c1, a2.tr c3, ⟨n', c6, by omega, ?_⟩, by omega⟩
      rw [KdS_n]
      unfold KsN
      rw [if_neg (by omega), if_neg (by omega), if_neg (by omega)]
      have A2 : AgK S (chk X tb 0 0 S).2.2.2 T T3 0 (n0 + 1) := AgK.fx a2 (fB.1 12 (by omega)) fx3 h51 (by omega) (Nat.le_refl _)
      have m1 := a6.1
      refine ⟨by omega, ?_, ?_⟩
      · rw [(A2.tr (c4.sub (Nat.le_refl _) (by omega))).rw (by omega) (by omega)]
        exact hrow
      · rw [if_neg (by omega), if_neg (by omega), if_neg (by omega), if_neg (by omega), if_neg (by omega), if_neg (by omega), if_pos rfl]
        refine ⟨m', a6.mo c4 (by omega) (Nat.le_refl _), c7, ?_⟩
        by_cases t4 : tkd X ta = 4
        · rw [if_pos t4] at c9 ⊢
          refine ⟨?_, c9.2⟩
          obtain ⟨cc, d1, d2⟩ := c9.1
          exact ⟨cc, by rw [← Rq]; exact d1, d2⟩
        · rw [if_neg t4] at c9 ⊢
          exact c9
end ZS9
