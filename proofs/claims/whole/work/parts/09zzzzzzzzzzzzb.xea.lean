/-! both machines: a ROW made -/
section XEA
variable {M0 T0 Sf S Sh : gSt} {G G' : GH} {D D' : Nat → (Nat → AV) × Nat} {nf d d' nb nb' mk mk' na na' ng ng' e bs ph bt rb tb ie en hb k q u s i j c t h P W Dp n m it n1 : Nat} {rg rg' : Nat → Nat} {ρ : Nat → Nat} {va : Nat → AV} {M M' T T' : gSt} {v : AV} {x a b cc ee op y z w : Int32} {st s0 st' : List Int32} {ov o0 ov' : List AV} {hs : List HD} {F : FRM} {Fr : Nat → FRM} {f : Nat → Int32} {jj : T5} {r1 : Int32} {l1 : Int64} {tg : List Nat}
theorem xe_15 (cx : CxP M0 T0 Sf) (h : Sim M0 T0 Sf G D nb mk rg na ng P W Fr Dp M T) (rn : RnO M T) (hn : fn (Fr Dp) = n) (hm : fm (Fr Dp) = m) (hn2 : n < 12000) (h51 : T0.1 51 0 = nI n1) (hm2 : m < n1) (h6 : n1 ≤ 6032) (hR : rOk M0 jj n) (hK : KrO (RgE (eN Sf (fit (Fr Dp))) (fS (Fr Dp))) (slF (fS (Fr Dp))) Sf T0 jj m) (hty : tyJ Sf (fS (Fr Dp)) jj (fst' (Fr Dp)) st') (hI : IvP Sf (fit (Fr Dp)) (fS (Fr Dp)) st' (fhs (Fr Dp))) (hnf : 16385 ≤ nf) (hd : 20 ≤ d) (hd' : 20 ≤ d') (hmk : mk + 1 < 2 ^ 31) (hj : jj.1 = 15) : ExQ nf d d' M0 T0 Sf P W mk rg na ng Fr Dp M T st' (n + 1) (m + 1) := by
  rw [tyJ_15 hj] at hty
  obtain ⟨s0, e1, e2, tv, lv, q, hq, hz⟩ := hty
  subst e2
  obtain ⟨w1, w2, w3, w4, w5, w6, w7, w8, w9⟩ := h.rw (n := n) (m := m)
  obtain ⟨b1, b2, b3, b4, b5⟩ := h.bd
  obtain ⟨fr, iv⟩ := h.fr
  have hc6 : cn Sf ≤ 6000 := by have := cx.2.1; omega
  have rowR := rO_n hR (by rw [hj]; decide)
  unfold rB at rowR
  rw [hj, if_neg (by decide), if_neg (by decide), if_pos (by decide)] at rowR
  unfold KrO at hK
  rw [hj, if_neg (by decide), if_neg (by decide), if_neg (by decide), if_neg (by decide), if_neg (by decide), if_neg (by decide), if_neg (by decide), if_neg (by decide), if_neg (by decide), if_neg (by decide), if_neg (by decide), if_neg (by decide), if_neg (by decide), if_pos (by decide)] at hK
  obtain ⟨b0, c0, ⟨r', b', er, eb, hrb⟩, kw, krow⟩ := hK
  rw [if_neg (by decide), wd_v hc6 tv kw, eb] at krow
  obtain ⟨s, es, hs⟩ := lv.1
  have err : r' = s := nI_inj (by have := hrb.lt.1; omega) (by omega) (by rw [← er, es])
  subst err
  obtain ⟨z1, z2, z3, z4, z5⟩ := rwT_g hz
  have wd0 : wdO M0 jj.2.2.1 = nI (wS Sf jj.2.2.1) := by
    have ro : isRo M0 jj.2.2.1 = isRo Sf jj.2.2.1 := by unfold isRo; rw [cx.2.2.1 66 (by omega)]
    unfold wdO wS
    rw [ro]
    by_cases c : isRo Sf jj.2.2.1 = 0
    · rw [if_pos c, if_pos c]; rfl
    · rw [if_neg c, if_neg c]; rfl
  rw [wd0, es] at rowR
  rw [es] at lv
  obtain ⟨v, hv, hrv, hcw⟩ := h.top e1
  obtain ⟨v0, hv0, hrv0, hcw0⟩ := h.top2 e1
  have wi := VTs.wi cx.1 hc6 (Or.inr tv) hv
  have w13 : wS Sf jj.2.2.1 = 1 ∨ wS Sf jj.2.2.1 = 3 := by
    unfold wS
    split
    · exact Or.inl rfl
    · exact Or.inr rfl
  have v2 : VT G nb rg na ng v (gty Sf (fρ (Fr Dp)) jj.2.2.1) := by
    unfold VTs at hv
    rw [if_neg (by
      rcases tv.row with w | ⟨p, hp⟩
      · rw [w]; decide
      · intro w; exact hp.np hc6 (by rw [w]; decide))] at hv
    exact hv
  have wgv : wg (gty Sf (fρ (Fr Dp)) jj.2.2.1) = wS Sf jj.2.2.1 := wg_gty cx.1 hc6 tv
  have l1 : (fst' (Fr Dp)).length = s0.length + 2 := by rw [e1]; rfl
  have l2 : wsl Sf (fst' (Fr Dp)) = wS Sf jj.2.2.1 + (1 + wsl Sf s0) := by rw [e1, ← wS_0 (Sf := Sf)]; rfl
  have l3 : wsl Sf (0 :: s0) = 1 + wsl Sf s0 := by rw [← wS_0 (Sf := Sf)]; rfl
  rw [l3] at hcw
  rw [List.length_cons] at hrv
  obtain ⟨i1, i2⟩ := hv0.i0
  have m0 : M.1 110 (fph (Fr Dp) + s0.length) = v0.1 := RV_i hrv0 i1 i2
  have t0 : T.1 99 (fbs (Fr Dp) + 80 + wsl Sf s0) = v0.1 := by
    have := hcw0 0 (by rw [wv_0 i2]; omega)
    rw [CW_i i1 i2] at this
    exact this
  generalize ewd : wS Sf jj.2.2.1 = wd at *
  obtain ⟨r, r1, r2, r3, r4⟩ := h.rgn lv hs
  have r4 := r4 b' hrb
  have b12 := RgE_12 hrb
  obtain ⟨⟨g1, g2, g3, g4, g5, g6, g7⟩, ⟨p1, p2', p3, _⟩, ⟨q1, _⟩, ⟨ch, frr, _, hrw, _⟩, _⟩ := h.1
  have hW64 := p3.2.2.2.2
  have w6' : (sI M 102 0 (nI (n + 1))).1 109 0 = nI (fph (Fr Dp) + s0.length + 2) := by rw [tp_102 (by omega), w6, l1]; rfl
  have w7' : (sI T 105 0 (nI (m + 1))).1 100 0 = nI (fbs (Fr Dp) + 80 + wsl Sf s0 + 1 + wd) := by rw [tp_105 (by omega), w7, l2]; congr 1; omega
  have m0' : (sI M 102 0 (nI (n + 1))).1 110 (fph (Fr Dp) + s0.length) = v0.1 := by rw [tp_102 (by omega)]; exact m0
  have t0' : (sI T 105 0 (nI (m + 1))).1 99 (fbs (Fr Dp) + 80 + wsl Sf s0) = v0.1 := by rw [tp_105 (by omega)]; exact t0
  have xm := x_mr (nf := nf) (d := d) (M := sI M 102 0 (nI (n + 1))) (e := Dp) (s := r') (r := r) (cc := nI wd) (ee := 0) (by rw [tp_102 (by omega)]; exact w8) (by omega) hs (by rw [tp_102 (by omega)]; exact r2) (by omega)
  have dcm : dC nf d' (sI T 105 0 (nI (m + 1))) 42 (nI b') (nI wd) = PP nf d' 211 (sI T 105 0 (nI (m + 1))) [42, nI b', nI wd] [] := dC_211 (by decide) (by decide) (by decide) (by decide) (by decide)
  by_cases neg : v0.1 < 0
  · refine Or.inr (Or.inl (rz_go (d1 := d - 3) (d2 := d' - 3) h hn hm hn2 h51 hm2 h6 rowR (by decide) krow (by decide) 5 (M.1 109 0) (T.1 100 0) (by omega) (by omega) (fun r' l' M' hM => ?_) (fun r' l' T' hT => ?_)))
    · rw [sI_idx (by rw [tp_102 (by omega)])] at hM
      rw [xm, mr_neg w6' (by omega) (by rw [m0']; exact fun w => absurd neg (Int32.not_lt.mpr w)) hM, bis, bis]
    · rw [sI_idx (by rw [tp_105 (by omega)])] at hT
      rw [dcm]
      refine c_mrow0 w7' t0' ?_ (by omega) (by omega)
      rw [c_plN neg (by omega), show d' - 2 - 1 = d' - 3 by omega, hT, bis]
  obtain ⟨ek, hk31⟩ := nI_clx neg
  generalize v0.1.toNatClampNeg = k at ek hk31
  rw [← ek] at m0' t0'
  rw [mr_1 w6' (by omega) m0' hk31] at xm
  have kwl := kw_lt (w := wd) hk31 (by omega)
  have hP2 : ((nI k).toInt64 * (nI wd).toInt64).toInt = ((k * wd : Nat) : Int) := i64_mul (i64_n hk31) (i64_n (by omega)) kwl
  by_cases big : W < k * wd
  · refine Or.inr (Or.inl (rz_go (d1 := d - 4) (d2 := d' - 3) h hn hm hn2 h51 hm2 h6 rowR (by decide) krow (by decide) 5 (M.1 109 0) (T.1 100 0) (by omega) (by omega) (fun r' l' M' hM => ?_) (fun r' l' T' hT => ?_)))
    · rw [sI_idx (by rw [tp_102 (by omega)])] at hM
      rw [xm, x_make5 (t := W) (n := k * wd) (by rw [tp_102 (by omega)]; exact p2') (by omega) hP2 big (by omega) (show RR nf (d - 3 - 1) 114 _ [5] [] = _ from hM), bis, if_pos rfl, bis, bis]
    · rw [sI_idx (by rw [tp_105 (by omega)])] at hT
      rw [dcm]
      refine c_mrow0 w7' t0' ?_ (by omega) (by omega)
      rw [c_pl5 (k := k) (w := wd) (W := W) hk31 (by omega) (by rw [tp_105 (by omega)]; exact p3.2.2.1) hW64 big (by omega), show d' - 2 - 1 = d' - 3 by omega, hT, bis]
  have pl : ∀ (z : Int32) (T2 : gSt), PP nf (d' - 3) 230 (sI T 105 0 (nI (m + 1))) [nI r, nI (k * wd)] [] = some (z, 0, T2) → PP nf (d' - 2) 213 (sI T 105 0 (nI (m + 1))) [nI b', nI k, nI wd] [] = some (z, 0, if z = -1 then sI T2 106 0 4 else T2) := fun z T2 hz => by
    refine c_plk (c := Dp + 1) (k := k) (w := wd) (W := W) (r := r) (by rw [tp_105 (by omega)]; exact w9) (by omega) b12 hk31 (by omega) (by rw [tp_105 (by omega)]; exact p3.2.2.1) hW64 (by omega) (by rw [tp_105 (by omega)]; exact r4) ?_ (by omega)
    rw [show d' - 2 - 1 = d' - 3 by omega]
    exact hz
  have hH1 : HpI G D nb mk rg na ng P W (sI M 102 0 (nI (n + 1))) (sI T 105 0 (nI (m + 1))) := h.1.eq (fun k hk => sI_ne (by omega)) (fun k k1 k2 => sI_ne (by omega))
  have p64 : P * W ≤ 64 * 64 := Nat.mul_le_mul p3.2.1 hW64
  have vty3 : Sf.1 66 q = 3 := z1
  have ws3 : wS Sf jj.2.2.2.1 = 3 := wS_r hc6 hq vty3
  by_cases k0 : k = 0
  · -- a ROW of nothing
    subst k0
    rw [Nat.zero_mul] at pl hP2
    obtain ⟨pg, u, w0, mm, nx, y1, y2, y3, y4, y5, y6, y7, y8, y9, y10, y11, y12, y13, y14, y15⟩ := hrw r r1
    have lf : nI 0 ≤ (sI T 105 0 (nI (m + 1))).1 127 r := by
      rw [tp_105 (by omega)]
      by_cases c : pg = 0
      · rw [if_pos c] at y15
        rw [y15.2.2]
        decide
      · rw [if_neg c] at y15
        rw [y15.2.1]
        exact (nI_leI (by omega) (by omega)).mpr (by omega)
    have mk1 := c_make1 (nf := nf) (d := d' - 3) (T := sI T 105 0 (nI (m + 1))) (m := na) (r := r) (by rw [tp_105 (by omega)]; exact g2) (by omega) r1 lf (by omega)
    rw [tp_105 (by omega), y13] at mk1
    have e3 := pl _ _ mk1
    rw [if_neg (nI_n1 (by omega))] at e3
    have tk : ∀ q, q ≠ 126 → q ≠ 127 → q ≠ 124 → q ≠ 125 → q ≠ 120 → (mkT (sI T 105 0 (nI (m + 1))) r (nI 0)).1 q = (sI T 105 0 (nI (m + 1))).1 q := fun q q1 q2 q3 q4 q5 => by
      unfold mkT
      rw [sI_ne q5, sI_ne q4, sI_ne q3, sI_ne q2, sI_ne q1]
    have pg2 : Pgs (mkT (sI T 105 0 (nI (m + 1))) r (nI 0)) P W := by
      unfold Pgs
      rw [tk 117 (by omega) (by omega) (by omega) (by omega) (by omega), tk 118 (by omega) (by omega) (by omega) (by omega) (by omega), tp_105 (by omega), tp_105 (by omega)]
      exact p3
    have cm := c_mrow (nf := nf) (d := d') (P := P) (W := W) (T := sI T 105 0 (nI (m + 1))) (k := 0) w7' w13 t0' e3 (tk 99 (by omega) (by omega) (by omega) (by omega) (by omega)) (by omega) (by omega) pg2 (fun i hi => absurd hi (by omega)) (by omega) (by omega) (by omega) (by omega)
    rw [Nat.zero_mul, mmW_0] at cm
    have e0 := x_make0 (nf := nf) (d := d - 3) (T := sI M 102 0 (nI (n + 1))) (r := r) (x := nI 0) (p2 := (nI 0).toInt64 * (nI wd).toInt64) (by omega) (by rw [tp_102 (by omega), p2', lg_W hP2 (by omega)]; omega) (lg_32 hP2 (by omega)) (by omega)
    have mN : ∀ q, q ≠ 105 → q ≠ 136 → (mkN0 (sI M 102 0 (nI (n + 1))) r).1 q = (sI M 102 0 (nI (n + 1))).1 q := fun q h1 h2 => by
      unfold mkN0
      rw [sI_ne h2, sI_ne h1]
    rw [e0, bis, if_neg (by decide), show nI 0 = (0 : Int32) from rfl, mr_0 (h := fph (Fr Dp) + s0.length) (by rw [mN 109 (by omega) (by omega)]; exact w6') (by omega) (by omega) (by omega), bis, bis] at xm
    have hz0 := hH1.zero r1 hmk
    have oM : ∀ q, ¬ (q = 102 ∨ q = 105 ∨ q = 136 ∨ (109 ≤ q ∧ q ≤ 113)) → (rpT (mkN0 (sI M 102 0 (nI (n + 1))) r) (fph (Fr Dp) + s0.length) 0 (-2) 0 0).1 q = M.1 q := fun q hq => by
      rw [rp_o (by omega) (by omega) (by omega) (by omega) (by omega), mN q (by omega) (by omega), sI_ne (by omega)]
    have oT : ∀ (ff : Nat → Int32) (q : Nat), ¬ (q = 99 ∨ q = 100 ∨ q = 105 ∨ q = 120 ∨ (124 ≤ q ∧ q ≤ 127)) → (stW (mkT (sI T 105 0 (nI (m + 1))) r (nI 0)) (fbs (Fr Dp) + 80 + wsl Sf s0) ff 3).1 q = T.1 q := fun ff q hq => by
      rw [stW_o (by omega) (by omega), tk q (by omega) (by omega) (by omega) (by omega) (by omega), sI_ne (by omega)]
    have hH := hz0.eq (M' := rpT (mkN0 (sI M 102 0 (nI (n + 1))) r) (fph (Fr Dp) + s0.length) 0 (-2) 0 0) (T' := stW (mkT (sI T 105 0 (nI (m + 1))) r (nI 0)) (fbs (Fr Dp) + 80 + wsl Sf s0) (fun i => if i = 0 then nI (nx + 1) else if i = 1 then 0 else nI 0) 3) (fun q hq => rp_o (by omega) (by omega) (by omega) (by omega) (by omega)) (fun q q1 q2 => stW_o (by omega) (by omega))
    have vok : VTs Sf G nb rg na ng (fρ (Fr Dp)) ((0 : Int32), nx + 1, (1 : Nat)) jj.2.2.2.1 := by
      rw [VTs_r cx.1 hc6 hq vty3]
      exact Or.inl rfl
    obtain ⟨w, y1', y2', y3', y4'⟩ := h.2.2.2.2.1
    obtain ⟨ov', hs'⟩ := Sim.ex (st := [jj.2.2.1, 0]) (s0 := s0) (st' := jj.2.2.2.1 :: s0) (n := n + 1) (m := m + 1) cx.1 hc6 h hH (fun _ _ => rfl) (Nat.le_refl _) h.2.2.2.2.2.2.2 e1 hI (fun q hq => oM q (by omega)) rfl (fun k q k1 k2 hq => by
      rw [rp_lo k1 hq, mN k (by omega) (by omega), sI_ne (by omega)]) (fun q hq => oT _ q (by omega)) (oT _ 121 (by omega)) rfl (fun q hq => by
      rw [stW_w, if_neg (by omega), tk 99 (by omega) (by omega) (by omega) (by omega) (by omega), sI_ne (by omega)]) ⟨w, by rw [oM 150 (by omega)]; exact y1', by rw [oT _ 111 (by omega)]; exact y2', y3', by rw [oM 151 (by omega), oT _ 110 (by omega)]; exact y4'⟩ (fun o0 _ e4 => ⟨((0 : Int32), nx + 1, (1 : Nat)) :: o0, vok, by
      rw [rp_v.1, rp_v.2.1, rp_v.2.2.1, rp_v.2.2.2]
      exact ⟨rfl, rfl, fun w => absurd w (by show ¬ (1 : Nat) < 1; omega)⟩, fun i hi => by
      have i3 : i < 3 := hi
      rw [stW_w, if_pos (by omega), Nat.add_sub_cancel_left]
      rfl, e4⟩) (by rw [rp_h, List.length_cons, Nat.add_assoc]) (by rw [stW_t, show wsl Sf (jj.2.2.2.1 :: s0) = wS Sf jj.2.2.2.1 + wsl Sf s0 from rfl, ws3]; congr 1; omega) (by rw [rp_o (by omega) (by omega) (by omega) (by omega) (by omega), mN 102 (by omega) (by omega), sI_v]) (by rw [stW_o (by omega) (by omega), tk 105 (by omega) (by omega) (by omega) (by omega) (by omega), sI_v])
    refine Or.inl ⟨_, _, G, D, nb, mk + 1, ov', StR.of (by rw [w4, hn]) hn2 (by rw [w1]; exact rowR) (by decide) xm, StC.of (by rw [w5, hm]) (by rw [w3]; exact h51) h6 hm2 (by rw [w2]; exact krow) (by decide) (dcm.trans cm), ⟨?_, ?_⟩, Nat.le_refl _, hs'⟩
    · rw [oM 100 (by omega)]; exact rn.1
    · rw [oT _ 106 (by omega)]; exact rn.2
  -- a ROW of k places
  have k64 : k ≤ k * wd := by
    rcases w13 with z | z <;> rw [z] <;> omega
  rcases mk_both (nf := nf) (d := d - 3) (d' := d' - 3) hH1 r1 (k := k) (n := k * wd) (by omega) k64 (by omega) hP2 hmk hnf (by omega) (by omega) with ⟨e4, e2⟩ | ⟨o, nx, l, fr', Mp, Tp, e4, e2, hpH, mo, m2, to, t2, ⟨a1, a4, a5, a6⟩, ⟨n1', n2'⟩, ct⟩
  · have e3 := pl _ _ e2
    rw [if_pos rfl] at e3
    rw [e4, bis, if_pos rfl, bis, bis] at xm
    exact Or.inr (Or.inr ⟨_, _, StR.of (by rw [w4, hn]) hn2 (by rw [w1]; exact rowR) (by decide) xm, StC.of (by rw [w5, hm]) (by rw [w3]; exact h51) h6 hm2 (by rw [w2]; exact krow) (by decide) (dcm.trans (c_mrow0 w7' t0' e3 (by omega) (by omega))), fun k k1 k2 => by rw [sI_ne k1, sI_ne k2], rfl, fun k k1 k2 _ _ => by rw [sI_ne k2, sI_ne k1], rfl, by rw [sI_v], by rw [sI_v]⟩)
  · have e3 := pl _ _ e2
    rw [if_neg (nI_n1 (by omega))] at e3
    have tk : ∀ q, q ≠ 126 → q ≠ 127 → q ≠ 124 → q ≠ 125 → q ≠ 120 → (mkT Tp r (nI (k * wd))).1 q = Tp.1 q := fun q q1 q2 q3 q4 q5 => by
      unfold mkT
      rw [sI_ne q5, sI_ne q4, sI_ne q3, sI_ne q2, sI_ne q1]
    have t99 : (mkT Tp r (nI (k * wd))).1 99 = (sI T 105 0 (nI (m + 1))).1 99 := by rw [tk 99 (by omega) (by omega) (by omega) (by omega) (by omega), to 99 (by omega) (by omega) (by omega) (by omega) (by omega) (by omega)]
    have pg2 : Pgs (mkT Tp r (nI (k * wd))) P W := by
      unfold Pgs
      rw [tk 117 (by omega) (by omega) (by omega) (by omega) (by omega), tk 118 (by omega) (by omega) (by omega) (by omega) (by omega)]
      exact hpH.2.1.2.2.1
    have cm := c_mrow (nf := nf) (d := d') (P := P) (W := W) (T := sI T 105 0 (nI (m + 1))) (k := k) w7' w13 t0' e3 t99 (by omega) hk31 pg2 (fun j hj => ⟨by omega, by
      rw [tk 116 (by omega) (by omega) (by omega) (by omega) (by omega), n2' j hj]
      exact nI_n1 (by omega)⟩) (by omega) (by omega) (by omega) (by omega)
    have xk := x_mrK (nf := nf) (d := d - 3) (r := r) (y := nI (k * wd)) (o := o) (l := l) (fr' := fr') (Mp := Mp) (k := k) (nb := nb) (h := fph (Fr Dp) + s0.length) a1 a4 a5 a6 (by omega) (by rw [mo 137 (by omega) (by omega) (by omega), tp_102 (by omega)]; exact q1) (by rw [mo 109 (by omega) (by omega) (by omega)]; exact w6') (by omega) (by omega) (by omega)
    rw [e4, bis, xk, bis, bis] at xm
    have tkq : ∀ q, q ≠ 149 → q ≠ 143 → q ≠ 139 → q ≠ 148 → q ≠ 137 → q ≠ 138 → q ≠ 141 → q ≠ 140 → q ≠ 142 → q ≠ 105 → q ≠ 136 → q ≠ 134 → q ≠ 135 → (tkT o l (mkB (mkU Mp r (nI (k * wd))) r o (nI k))).1 q = Mp.1 q := fun q u1 u2 u3 u4 u5 u6 u7 u8 u9 v1 v2 v3 v4 => by
      rw [tkT_o u1 u2 u3 u4]
      unfold mkB mkU mkN0
      rw [sI_ne u3, sI_ne u9, sI_ne u8, sI_ne u7, sI_ne u6, sI_ne u5, sI_ne v4, sI_ne v3, sI_ne v2, sI_ne v1]
    have mq : ∀ q, ¬ (q = 102 ∨ q = 105 ∨ (130 ≤ q ∧ q ≤ 149)) → (tkT o l (mkB (mkU Mp r (nI (k * wd))) r o (nI k))).1 q = M.1 q := fun q hq => by
      rw [tkq q (by omega) (by omega) (by omega) (by omega) (by omega) (by omega) (by omega) (by omega) (by omega) (by omega) (by omega) (by omega) (by omega), mo q (by omega) (by omega) (by omega), sI_ne (by omega)]
    have m142 : ∀ q, q ≠ o → (tkT o l (mkB (mkU Mp r (nI (k * wd))) r o (nI k))).1 142 q = Mp.1 142 q := fun q hq => by
      rw [tkT_o (by omega) (by omega) (by omega) (by omega)]
      unfold mkB mkU mkN0
      rw [sI_ne (by omega), rdI, if_neg (fun w => hq w.2), sI_ne (by omega), sI_ne (by omega), sI_ne (by omega), sI_ne (by omega), sI_ne (by omega), sI_ne (by omega), sI_ne (by omega), sI_ne (by omega)]
    have m148 : ∀ q c, 144 ≤ q → q ≤ 148 → c ∉ l → (tkT o l (mkB (mkU Mp r (nI (k * wd))) r o (nI k))).1 q c = Mp.1 q c := fun q c h1 h2 hc => by
      by_cases e : q = 148
      · subst e
        rw [(tkT_p l _ c hc).2]
        unfold mkB mkU mkN0
        rw [sI_ne (by omega), sI_ne (by omega), sI_ne (by omega), sI_ne (by omega), sI_ne (by omega), sI_ne (by omega), sI_ne (by omega), sI_ne (by omega), sI_ne (by omega), sI_ne (by omega)]
      · rw [tkq q (by omega) (by omega) (by omega) e (by omega) (by omega) (by omega) (by omega) (by omega) (by omega) (by omega) (by omega) (by omega)]
    have mM2 : (tkT o l (mkB (mkU Mp r (nI (k * wd))) r o (nI k))).2 = M.2 := by rw [tkT_2]; exact m2
    have lnd : l.reverse.Nodup := nd_rev (List.nodup_append.mp a5).1
    have lrl : l.reverse.length = k := by rw [List.length_reverse, a6]
    have inl : ∀ p, p < k → l.reverse.getD p 0 ∈ l := fun p hp => by
      rw [← List.mem_reverse, List.getD_eq_getElem?_getD, List.getElem?_eq_getElem (by omega), Option.getD_some]
      exact List.getElem_mem _
    have lw : ∀ p j, p < k → j < wd → p * wd + j < k * wd := fun p j hp hj => by
      have : (p + 1) * wd ≤ k * wd := Nat.mul_le_mul_right _ hp
      rw [Nat.add_mul] at this
      omega
    have HM := ct (rpT (ptsT (tkT o l (mkB (mkU Mp r (nI (k * wd))) r o (nI k))) l.reverse (fun _ => fph (Fr Dp) + s0.length + 1) k) (fph (Fr Dp) + s0.length) 0 (nI o) (nI (nb + 1)) (nI k)) (stW (mmW (mkT Tp r (nI (k * wd))) nx (fun i => (sI T 105 0 (nI (m + 1))).1 99 (fbs (Fr Dp) + 80 + wsl Sf s0 + 1 + i % wd)) 0 (k * wd)) (fbs (Fr Dp) + 80 + wsl Sf s0) (fun i => if i = 0 then nI (nx + 1) else if i = 1 then 0 else nI k) 3) (o, nx, fρ (Fr Dp) r', k, k * wd, 0, [], fun p => p * wd, fun _ => gty Sf (fρ (Fr Dp)) jj.2.2.1) (fun _ => v) 0 rfl rfl r3.symm rfl rfl ⟨fun _ => ⟨fun p hp => by
        show p * wd + wg (gty Sf (fρ (Fr Dp)) jj.2.2.1) ≤ k * wd
        have : (p + 1) * wd ≤ k * wd := Nat.mul_le_mul_right _ hp
        rw [Nat.add_mul] at this
        omega, fun p q hpq hq => by
        show p * wd + wg (gty Sf (fρ (Fr Dp)) jj.2.2.1) ≤ q * wd
        have : (p + 1) * wd ≤ q * wd := Nat.mul_le_mul_right _ hpq
        rw [Nat.add_mul] at this
        omega⟩, fun w => absurd rfl w⟩ (fun _ _ => v2)
    generalize tkT o l (mkB (mkU Mp r (nI (k * wd))) r o (nI k)) = Mo at *
    have XO : ∀ q, ¬ (109 ≤ q ∧ q ≤ 113) → ¬ (144 ≤ q ∧ q ≤ 148) → (rpT (ptsT Mo l.reverse (fun _ => fph (Fr Dp) + s0.length + 1) k) (fph (Fr Dp) + s0.length) 0 (nI o) (nI (nb + 1)) (nI k)).1 q = Mo.1 q := fun q u1 u3 => by
      rw [rp_o (by omega) (by omega) (by omega) (by omega) (by omega), ptsT_o u3]
    have X14 : ∀ q, 144 ≤ q → q ≤ 148 → (rpT (ptsT Mo l.reverse (fun _ => fph (Fr Dp) + s0.length + 1) k) (fph (Fr Dp) + s0.length) 0 (nI o) (nI (nb + 1)) (nI k)).1 q = (ptsT Mo l.reverse (fun _ => fph (Fr Dp) + s0.length + 1) k).1 q := fun q u1 u2 => by
      rw [rp_o (by omega) (by omega) (by omega) (by omega) (by omega)]
    have Ms : ∀ q i, 110 ≤ q → q ≤ 113 → Mo.1 q i = M.1 q i := fun q i u1 u2 => by rw [mq q (by omega)]
    have HH := HM (fun q hq => XO q (by omega) (by omega)) (fun q hq => by
      rw [XO 142 (by omega) (by omega)]
      exact m142 q hq) (fun hu => absurd rfl hu) (fun q c u1 u2 hc => by
      rw [X14 q u1 u2, ptsT_c (q := c) k (fun i hi w => hc (by rw [← w]; exact inl i hi))]
      exact m148 q c u1 u2 hc) (fun p hp => by
      obtain ⟨y1, y2, y3, y4, y5⟩ := ptsT_v (M := Mo) (g := fun _ => fph (Fr Dp) + s0.length + 1) lnd k (by omega) p hp
      rw [X14 144 (by omega) (by omega), X14 145 (by omega) (by omega), X14 146 (by omega) (by omega), X14 147 (by omega) (by omega), X14 148 (by omega) (by omega), y1, y2, y3, y4, y5, Ms 110 _ (by omega) (by omega), Ms 111 _ (by omega) (by omega), Ms 112 _ (by omega) (by omega), Ms 113 _ (by omega) (by omega)]
      exact ⟨by decide, hrv⟩) (fun q u1 u2 => by rw [stW_o (by omega) (by omega), mmW_o (by omega) (by omega)]) (fun q c hq hc => by
      rw [stW_o (by omega) (by omega)]
      have ek : (mkT Tp r (nI (k * wd))).1 q c = Tp.1 q c := by rw [tk q (by omega) (by omega) (by omega) (by omega) (by omega)]
      rcases hq with e | e <;> subst e
      · rw [mmW_w, if_neg (by omega), ek]
      · rw [mmW_g, if_neg (by omega), ek]) (fun hu => absurd rfl hu) (fun p hp j hj => by
      have j3 : j < wd := by omega
      have := lw p j hp j3
      show (stW _ _ _ 3).1 114 (nx + p * wd + j) = CW G v j ∧ ¬ (stW _ _ _ 3).1 115 (nx + p * wd + j) = 0
      rw [stW_o (by omega) (by omega), stW_o (by omega) (by omega), mmW_w, mmW_g, if_pos (by omega), if_pos (by omega), show nx + p * wd + j - nx = j + wd * p by rw [Nat.mul_comm wd p]; omega, Nat.add_mul_mod_self_left, Nat.mod_eq_of_lt j3, tp_105 (by omega)]
      refine ⟨?_, by decide⟩
      have := hcw j hj
      rw [show fbs (Fr Dp) + 80 + (1 + wsl Sf s0) + j = fbs (Fr Dp) + 80 + wsl Sf s0 + 1 + j by omega] at this
      exact this)
    have Mo102 : Mo.1 102 0 = nI (n + 1) := by rw [tkq 102 (by omega) (by omega) (by omega) (by omega) (by omega) (by omega) (by omega) (by omega) (by omega) (by omega) (by omega) (by omega) (by omega), mo 102 (by omega) (by omega) (by omega), sI_v]
    have tT : ∀ q, ¬ (q = 99 ∨ q = 100 ∨ (114 ≤ q ∧ q ≤ 127 ∧ q ≠ 121)) → (stW (mmW (mkT Tp r (nI (k * wd))) nx (fun i => (sI T 105 0 (nI (m + 1))).1 99 (fbs (Fr Dp) + 80 + wsl Sf s0 + 1 + i % wd)) 0 (k * wd)) (fbs (Fr Dp) + 80 + wsl Sf s0) (fun i => if i = 0 then nI (nx + 1) else if i = 1 then 0 else nI k) 3).1 q = (sI T 105 0 (nI (m + 1))).1 q := fun q hq => by
      rw [stW_o (by omega) (by omega), mmW_o (by omega) (by omega), tk q (by omega) (by omega) (by omega) (by omega) (by omega), to q (by omega) (by omega) (by omega) (by omega) (by omega) (by omega)]
    refine mk_ex (v := ((0 : Int32), nb + 1, k + 1)) (O := (o, nx, fρ (Fr Dp) r', k, k * wd, 0, [], fun p => p * wd, fun _ => gty Sf (fρ (Fr Dp)) jj.2.2.1)) cx h rn (StR.of (by rw [w4, hn]) hn2 (by rw [w1]; exact rowR) (by decide) xm) (StC.of (by rw [w5, hm]) (by rw [w3]; exact h51) h6 hm2 (by rw [w2]; exact krow) (by decide) (dcm.trans cm)) HH a1 (by show nx < 4097; omega) ⟨by show 1 ≤ k; omega, by show k ≤ 64; omega⟩ (fun p (hp : p < k) => by
      show p * wd < 64
      have := lw p 0 hp (by omega)
      omega) ?_ (st := [jj.2.2.1, 0]) e1 hI ?_ ?_ (fun i hi => ?_) (fun k' hk' => ?_) ?_ (fun q' q u1 u2 hq => ?_) (fun q hq => ?_) ?_ (fun q hq => ?_) rp_h stW_t ?_ ?_
    · refine Or.inl ?_
      unfold gTi gUn gPl gTy gWo
      rw [upG_b]
      refine ⟨rfl, rfl, gty Sf (fρ (Fr Dp)) jj.2.2.1, fun p hp => ⟨rfl, ?_⟩⟩
      rw [wgv]
    · rw [VTs_r cx.1 hc6 hq vty3, show Sf.1 67 q = nI r' from z2.trans es, nc (by omega)]
      unfold gPl gUn gTi gHm gTy
      refine Or.inr ⟨by show 1 < k + 1; omega, by show 1 ≤ nb + 1; omega, Nat.le_refl _, ?_⟩
      show (upG G (nb + 1) _ (nb + 1)).2.2.2.1 + 1 = k + 1 ∧ (upG G (nb + 1) _ (nb + 1)).2.2.2.2.2.1 = 0 ∧ (upG G (nb + 1) _ (nb + 1)).2.2.2.2.2.2.1 = [] ∧ ot rg na ng (upG G (nb + 1) _ (nb + 1)).2.2.1 (fρ (Fr Dp) r') ∧ ∀ q_1, q_1 < (upG G (nb + 1) _ (nb + 1)).2.2.2.1 → tgt Sf (fρ (Fr Dp)) q = 0 :: (upG G (nb + 1) _ (nb + 1)).2.2.2.2.2.2.2.2 q_1
      rw [upG_b]
      refine ⟨rfl, rfl, rfl, ?_, fun p _ => ?_⟩
      · show ot rg na ng (fρ (Fr Dp) r') (fρ (Fr Dp) r')
        rw [← r3]
        exact ot.rf (g6 r r1)
      · show tgt Sf (fρ (Fr Dp)) q = 0 :: gty Sf (fρ (Fr Dp)) jj.2.2.1
        rw [tgt_c (by rw [show Sf.1 69 q = -1 from z4]; decide), z3]
    · rw [rp_v.1, rp_v.2.1, rp_v.2.2.1, rp_v.2.2.2]
      unfold RV gOb
      rw [if_neg (by show ¬ k + 1 = 0; omega)]
      show (0 : Int32) = 0 ∧ nI k = nI (k + 1 - 1) ∧ (1 < k + 1 → nI o = nI (upG G (nb + 1) _ (nb + 1)).1 ∧ nI (nb + 1) = nI (nb + 1))
      rw [upG_b]
      exact ⟨rfl, rfl, fun _ => ⟨rfl, rfl⟩⟩
    · have i3 : i < 3 := hi
      rw [stW_w, if_pos (by omega), Nat.add_sub_cancel_left]
      unfold CW gAd
      rw [if_neg (show ¬ ((0 : Int32), nb + 1, k + 1).2.2 = 0 by show ¬ k + 1 = 0; omega), if_neg (show ¬ ((0 : Int32), nb + 1, k + 1).2.2 = 1 by show ¬ k + 1 = 1; omega)]
      show _ = if i = 0 then nI ((upG G (nb + 1) _ (nb + 1)).2.1 + 1) else if i = 1 then 0 else nI (k + 1 - 1)
      rw [upG_b]
      rfl
    · rw [XO k' (by omega) (by omega), mq k' (by omega)]
    · show (ptsT Mo l.reverse _ k).2 = M.2
      rw [ptsT_2, mM2]
    · rw [rp_lo u1 hq, ptsT_o (by omega), Ms q' q u1 u2]
    · rw [tT q (by omega), sI_ne (by omega)]
    · exact t2
    · rw [stW_w, if_neg (by omega), mmW_o (by omega) (by omega), t99, sI_ne (by omega)]
    · rw [XO 102 (by omega) (by omega), Mo102]
    · rw [tT 105 (by omega), sI_v]
end XEA
