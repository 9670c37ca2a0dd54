/-! both machines: CELL, struct and union made -/
section MK5
variable {M0 T0 Sf S Sh : gSt} {G G' : GH} {D D' : Nat → (Nat → AV) × Nat} {nf d d' nb nb' mk mk' na na' ng ng' e bs ph bt rb tb ie en hb k q u s i j c t h P W Dp n m it n1 r o b : Nat} {rg rg' : Nat → Nat} {ρ : Nat → Nat} {va : Nat → AV} {M M' Mo T T' T2 : gSt} {v : AV} {x a cc ee op y z w x1 : Int32} {st s0 st' : List Int32} {ov o0 ov' : List AV} {hs : List HD} {F : FRM} {Fr : Nat → FRM} {f : Nat → Int32} {jj : T5} {l : List Nat} {O : GO} {vs : Nat → AV} {tg : Nat} {p2 : Int64}
theorem rp_v : (rpT M h x y z w).1 110 h = x ∧ (rpT M h x y z w).1 111 h = y ∧ (rpT M h x y z w).1 112 h = z ∧ (rpT M h x y z w).1 113 h = w := by
  unfold rpT
  rw [sI_ne (g' := 110) (by omega), sI_ne (g' := 110) (by omega), sI_ne (g' := 110) (by omega), sI_ne (g' := 110) (by omega), sI_v, sI_ne (g' := 111) (by omega), sI_ne (g' := 111) (by omega), sI_ne (g' := 111) (by omega), sI_v, sI_ne (g' := 112) (by omega), sI_ne (g' := 112) (by omega), sI_v, sI_ne (g' := 113) (by omega), sI_v]
  exact ⟨rfl, rfl, rfl, rfl⟩
theorem rp_lo (k1 : 110 ≤ k) (hq : q < h) : (rpT M h x y z w).1 k q = M.1 k q := by
  unfold rpT
  rw [sI_ne (by omega), rdI, if_neg (by omega), rdI, if_neg (by omega), rdI, if_neg (by omega), rdI, if_neg (by omega)]
theorem x_mb (ha : a = 14 ∨ a = 16 ∨ a = 17) (h103 : M.1 103 0 = nI (e + 1)) (he : e < 40) (hs : s < 12) (hreg : (if s = 0 then 0 else M.1 121 (12 * e + s)) = nI r) (hk : if a = 16 then ∃ t, cc = nI t ∧ t < 24 ∧ M.1 19 t = nI k else k = 1) (hd : 3 ≤ d) : RR nf d 118 M [a, nI s, cc, ee] [] = bi (rj_Model_makeBy_37 (RR nf (d - 2)) nf M a cc ee (nI r) (nI k)) (fun _ _ T => some (0, 0, T)) := by
  obtain ⟨d, rfl⟩ : ∃ g, d = g + 2 := ⟨d - 2, by omega⟩
  rw [Nat.add_sub_cancel, e_Model_run_IIII]
  unfold rb_Model_run_IIII
  have reg := x_regM (nf := nf) (d := d) h103 he hs (by omega)
  rw [hreg] at reg
  rcases ha with e | e | e
  · subst e
    rw [if_neg (by decide)] at hk
    subst hk
    rw [if_neg (by decide), if_neg (by decide), if_neg (by decide), if_neg (by decide), if_neg (by decide), if_neg (by decide), if_neg (by decide), if_neg (by decide), if_neg (by decide), if_neg (by decide), if_neg (by decide), if_neg (by decide), if_neg (by decide), if_pos rfl, e_Model_makeBy]
    unfold rb_Model_makeBy
    rw [reg, bis, if_neg (by decide), if_neg (by decide)]
    rfl
  · subst e
    rw [if_pos rfl] at hk
    obtain ⟨t, k1, k2, k3⟩ := hk
    subst k1
    rw [if_neg (by decide), if_neg (by decide), if_neg (by decide), if_neg (by decide), if_neg (by decide), if_neg (by decide), if_neg (by decide), if_neg (by decide), if_neg (by decide), if_neg (by decide), if_neg (by decide), if_neg (by decide), if_neg (by decide), if_neg (by decide), if_neg (by decide), if_pos rfl, e_Model_makeBy]
    unfold rb_Model_makeBy
    rw [reg, bis, if_neg (by decide), if_pos rfl, gd, if_pos (nin k2 (by omega)), nc (by omega), k3]
  · subst e
    rw [if_neg (by decide)] at hk
    subst hk
    rw [if_neg (by decide), if_neg (by decide), if_neg (by decide), if_neg (by decide), if_neg (by decide), if_neg (by decide), if_neg (by decide), if_neg (by decide), if_neg (by decide), if_neg (by decide), if_neg (by decide), if_neg (by decide), if_neg (by decide), if_neg (by decide), if_neg (by decide), if_neg (by decide), if_pos rfl, e_Model_makeBy]
    unfold rb_Model_makeBy
    rw [reg, bis, if_neg (by decide), if_neg (by decide)]
    rfl
theorem mk_go (cx : CxP M0 T0 Sf) (h : Sim M0 T0 Sf G D nb mk rg na ng P W Fr Dp M T) (rn : RnO M T) (hn : fn (Fr Dp) = n) (hm : fm (Fr Dp) = m) (hn2 : n < 12000) (h51 : T0.1 51 0 = nI n1) (hm2 : m < n1) (h6 : n1 ≤ 6032) (rowR : rwC4 M0 n = (a, nI s, cc, ee)) (ha : ¬ a = 0) (rowC : cw3 T0 m = (op, x, y)) (ho : ¬ op = 1) (hst : fst' (Fr Dp) = st ++ s0) {ty : Int32} (hI : IvP Sf (fit (Fr Dp)) (fS (Fr Dp)) (ty :: s0) (fhs (Fr Dp)))
  (hs : s < 12) (hlv : lvR (fS (Fr Dp)) (nI s)) (hb : RgE (eN Sf (fit (Fr Dp))) (fS (Fr Dp)) s b) {k nw ws w0 un tg : Nat} (hk : st.length = k) (hk1 : 1 ≤ k) (hk8 : k ≤ 64) (hkn : k ≤ nw) (hw : wsl Sf st = ws) (hws : w0 + ws ≤ nw) (hnw : nw ≤ 100) (hp2 : p2.toInt = (nw : Int))
  (hr : ∀ r, (if s = 0 then 0 else M.1 121 (12 * Dp + s)) = nI r → RR nf d 118 (sI M 102 0 (nI (n + 1))) [a, nI s, cc, ee] [] = bi (bi (RR nf (d - 2) 110 (sI M 102 0 (nI (n + 1))) [nI r, nI k] [p2]) (fun r _ T24 => mbK nf (d - 2) a ee (nI k) r T24)) (fun _ _ T => some (0, 0, T)))
  (hp0 : ∀ T2, PP nf (d' - 1) 213 (sI T 105 0 (nI (m + 1))) [nI b, 1, nI nw] [] = some (-1, 0, T2) → dC nf d' (sI T 105 0 (nI (m + 1))) op x y = some (0, 0, T2))
  (hp1 : ∀ T2 i, PP nf (d' - 1) 213 (sI T 105 0 (nI (m + 1))) [nI b, 1, nI nw] [] = some (nI i, 0, T2) → i < 90000 → T2.1 100 0 = nI (fbs (Fr Dp) + 80 + wsl Sf s0 + ws) → Pgs T2 P W → (∀ j, j < nw → Own T2 P W (i + j)) → ∃ T', dC nf d' (sI T 105 0 (nI (m + 1))) op x y = some (0, 0, T') ∧ CmT T2 T' i (fbs (Fr Dp) + 80 + wsl Sf s0) nw w0 ws un tg)
  (vs : Nat → AV) (off : Nat → Nat) (ti : List Nat) (gt : Nat → List Nat)
  (hvs : ∀ p, p < k → VT G nb rg na ng (vs p) (gt (if un = 0 then p else tg)) ∧ RV G (vs p) (M.1 110 (fph (Fr Dp) + s0.length + p)) (M.1 111 (fph (Fr Dp) + s0.length + p)) (M.1 112 (fph (Fr Dp) + s0.length + p)) (M.1 113 (fph (Fr Dp) + s0.length + p)) ∧ (∀ w, w < wv (vs p) → T.1 99 (fbs (Fr Dp) + 80 + wsl Sf s0 + off p + w) = CW G (vs p) w) ∧ off p + wv (vs p) ≤ ws)
  (hsh : ∀ o nx, shG (o, nx, fρ (Fr Dp) s, k, nw, un, ti, fun p => w0 + off p, gt) vs tg k nw)
  (hti : ∀ o nx, titO Sf T0 (upG G (nb + 1) (o, nx, fρ (Fr Dp) s, k, nw, un, ti, fun p => w0 + off p, gt)) (nb + 1))
  (hq : rowP Sf ty q) (h66 : Sf.1 66 q = 1) (h67 : Sf.1 67 q = nI s) (htg : ((tgt Sf (fρ (Fr Dp)) q).headD 0 = 1 ∧ tgt Sf (fρ (Fr Dp)) q = ti) ∨ (tgt Sf (fρ (Fr Dp)) q = 0 :: gt 0 ∧ un = 0))
  (h142 : ¬ un = 0 → a = 17 ∧ ee = nI tg) (hw00 : un = 0 → w0 + off 0 = 0) (hmk : mk + 1 < 2 ^ 31) (hnf : 16385 ≤ nf) (hd : 20 ≤ d) (hd' : 20 ≤ d') : ExQ nf d d' M0 T0 Sf P W mk rg na ng Fr Dp M T (ty :: s0) (n + 1) (m + 1) := by
  obtain ⟨w1, w2, w3, w4, w5, w6, w7, w8, w9⟩ := h.rw (n := n) (m := m)
  obtain ⟨b1, b2, b3, b4, b5⟩ := h.bd
  have hc6 : cn Sf ≤ 6000 := by have := cx.2.1; omega
  obtain ⟨r, r1, r2, r3, r4⟩ := h.rgn hlv hs
  have r4 := r4 b hb
  have b12 := RgE_12 hb
  have hr := hr r r2
  obtain ⟨⟨z1, z2, z3, z4, z5, z6, z7⟩, ⟨p1, p2', p3, _⟩, ⟨q1, _⟩, _⟩ := h.1
  have hW64 := p3.2.2.2.2
  have l1 : (fst' (Fr Dp)).length = s0.length + k := by rw [hst, List.length_append]; omega
  have l2 : wsl Sf (fst' (Fr Dp)) = ws + wsl Sf s0 := by rw [hst, wsl_ap, hw]
  have hH1 : HpI G D nb mk rg na ng P W (sI M 102 0 (nI (n + 1))) (sI T 105 0 (nI (m + 1))) := h.1.eq (fun k hk => sI_ne (by omega)) (fun k k1 k2 => sI_ne (by omega))
  by_cases big : W < nw
  · -- too large
    refine Or.inr (Or.inl (rz_go (d1 := d - 3) (d2 := d' - 2) h hn hm hn2 h51 hm2 h6 rowR ha rowC ho 5 (M.1 109 0) (T.1 100 0) (by omega) (by omega) (fun r' l' M' hM => ?_) (fun r' l' T' hT => ?_)))
    · rw [sI_idx (by rw [tp_102 (by omega)])] at hM
      rw [hr, x_make5 (t := W) (n := nw) (by rw [tp_102 (by omega)]; exact p2') (by omega) hp2 big (by omega) (show RR nf (d - 2 - 1) 114 _ [5] [] = _ from hM), bis]
      unfold mbK
      rw [if_pos rfl, bis]
    · rw [sI_idx (by rw [tp_105 (by omega)])] at hT
      refine hp0 T' ?_
      refine (c_pl5 (x := nI b) (k := 1) (w := nw) (W := W) (by omega) hnw (by rw [tp_105 (by omega)]; exact p3.2.2.1) hW64 (by omega) (by omega)).trans ?_
      rw [show d' - 1 - 1 = d' - 2 by omega, hT, bis]
  · have pl : ∀ (z : Int32) (T2 : gSt), PP nf (d' - 2) 230 (sI T 105 0 (nI (m + 1))) [nI r, nI nw] [] = some (z, 0, T2) → PP nf (d' - 1) 213 (sI T 105 0 (nI (m + 1))) [nI b, 1, nI nw] [] = some (z, 0, if z = -1 then sI T2 106 0 4 else T2) := fun z T2 hz => by
      refine c_plk (c := Dp + 1) (k := 1) (w := nw) (W := W) (r := r) (by rw [tp_105 (by omega)]; exact w9) (by omega) b12 (by omega) hnw (by rw [tp_105 (by omega)]; exact p3.2.2.1) hW64 (by omega) (by rw [tp_105 (by omega)]; exact r4) ?_ (by omega)
      rw [Nat.one_mul, show d' - 1 - 1 = d' - 2 by omega]
      exact hz
    rcases mk_both (nf := nf) (d := d - 2) (d' := d' - 2) hH1 r1 hk1 hkn (by omega) hp2 hmk hnf (by omega) (by omega) with ⟨e1, e2⟩ | ⟨o, nx, l, fr', Mp, Tp, e1, e2, hpH, mo, m2, to, t2, ⟨a1, a4, a5, a6⟩, ⟨n1', n2'⟩, ct⟩
    · -- no room is left
      have e3 := pl _ _ e2
      rw [if_pos rfl] at e3
      refine Or.inr (Or.inr ⟨sI (sI M 102 0 (nI (n + 1))) 100 0 4, sI (sI T 105 0 (nI (m + 1))) 106 0 4, StR.of (r1 := 0) (l1 := 0) (by rw [w4, hn]) hn2 (by rw [w1]; exact rowR) ha ?_, StC.of (by rw [w5, hm]) (by rw [w3]; exact h51) h6 hm2 (by rw [w2]; exact rowC) ho (hp0 _ e3), fun k k1 k2 => by rw [sI_ne k1, sI_ne k2], rfl, fun k k1 k2 _ _ => by rw [sI_ne k2, sI_ne k1], rfl, by rw [sI_v], by rw [sI_v]⟩)
      rw [hr, e1, bis]
      unfold mbK
      rw [if_pos rfl, bis]
    · -- it lives
      have e3 := pl _ _ e2
      have p64 : P * W ≤ 64 * 64 := Nat.mul_le_mul p3.2.1 hW64
      rw [if_neg (nI_n1 (by omega))] at e3
      have tk : ∀ q, q ≠ 126 → q ≠ 127 → q ≠ 124 → q ≠ 125 → q ≠ 120 → (mkT Tp r (nI nw)).1 q = Tp.1 q := fun q q1 q2 q3 q4 q5 => by
        unfold mkT
        rw [sI_ne q5, sI_ne q4, sI_ne q3, sI_ne q2, sI_ne q1]
      have t100 : (mkT Tp r (nI nw)).1 100 = T.1 100 := by rw [tk 100 (by omega) (by omega) (by omega) (by omega) (by omega), to 100 (by omega) (by omega) (by omega) (by omega) (by omega) (by omega), sI_ne (by omega)]
      have t99 : (mkT Tp r (nI nw)).1 99 = T.1 99 := by rw [tk 99 (by omega) (by omega) (by omega) (by omega) (by omega), to 99 (by omega) (by omega) (by omega) (by omega) (by omega) (by omega), sI_ne (by omega)]
      have pg2 : Pgs (mkT Tp r (nI nw)) P W := by
        unfold Pgs
        rw [tk 117 (by omega) (by omega) (by omega) (by omega) (by omega), tk 118 (by omega) (by omega) (by omega) (by omega) (by omega)]
        exact hpH.2.1.2.2.1
      obtain ⟨T', dc, c1, c2, c3, c4, c5, c6, c7, c8⟩ := hp1 _ nx e3 (by omega) (by rw [t100, w7, l2]; congr 1; omega) pg2 (fun j hj => ⟨by omega, by
        rw [tk 116 (by omega) (by omega) (by omega) (by omega) (by omega), n2' j hj]
        exact nI_n1 (by omega)⟩)
      have xm := x_mbK (nf := nf) (d := d - 2) (x1 := a) (ee := ee) (r := r) (y := nI nw) (o := o) (l := l) (fr' := fr') (Mp := Mp) (k := k) (nb := nb) (h := fph (Fr Dp) + s0.length) a1 a4 a5 a6 (by omega) (by rw [mo 137 (by omega) (by omega) (by omega), tp_102 (by omega)]; exact q1) (by rw [mo 109 (by omega) (by omega) (by omega), tp_102 (by omega), w6, l1, Nat.add_assoc]) (by omega) (by omega) (by omega)
      rw [e1, bis, xm, bis] at hr
      -- the reference's fields
      have tkq : ∀ q, q ≠ 149 → q ≠ 143 → q ≠ 139 → q ≠ 148 → q ≠ 137 → q ≠ 138 → q ≠ 141 → q ≠ 140 → q ≠ 142 → q ≠ 105 → q ≠ 136 → q ≠ 134 → q ≠ 135 → (tkT o l (mkB (mkU Mp r (nI nw)) r o (nI k))).1 q = Mp.1 q := fun q u1 u2 u3 u4 u5 u6 u7 u8 u9 v1 v2 v3 v4 => by
        rw [tkT_o u1 u2 u3 u4]
        unfold mkB mkU mkN0
        rw [sI_ne u3, sI_ne u9, sI_ne u8, sI_ne u7, sI_ne u6, sI_ne u5, sI_ne v4, sI_ne v3, sI_ne v2, sI_ne v1]
      have mq : ∀ q, ¬ (q = 102 ∨ q = 105 ∨ (130 ≤ q ∧ q ≤ 149)) → (tkT o l (mkB (mkU Mp r (nI nw)) r o (nI k))).1 q = M.1 q := fun q hq => by
        rw [tkq q (by omega) (by omega) (by omega) (by omega) (by omega) (by omega) (by omega) (by omega) (by omega) (by omega) (by omega) (by omega) (by omega), mo q (by omega) (by omega) (by omega), sI_ne (by omega)]
      have m142 : ∀ q, q ≠ o → (tkT o l (mkB (mkU Mp r (nI nw)) r o (nI k))).1 142 q = Mp.1 142 q := fun q hq => by
        rw [tkT_o (by omega) (by omega) (by omega) (by omega)]
        unfold mkB mkU mkN0
        rw [sI_ne (by omega), rdI, if_neg (fun w => hq w.2), sI_ne (by omega), sI_ne (by omega), sI_ne (by omega), sI_ne (by omega), sI_ne (by omega), sI_ne (by omega), sI_ne (by omega), sI_ne (by omega)]
      have m148 : ∀ q c, 144 ≤ q → q ≤ 148 → c ∉ l → (tkT o l (mkB (mkU Mp r (nI nw)) r o (nI k))).1 q c = Mp.1 q c := fun q c h1 h2 hc => by
        by_cases e : q = 148
        · subst e
          rw [(tkT_p l _ c hc).2]
          unfold mkB mkU mkN0
          rw [sI_ne (by omega), sI_ne (by omega), sI_ne (by omega), sI_ne (by omega), sI_ne (by omega), sI_ne (by omega), sI_ne (by omega), sI_ne (by omega), sI_ne (by omega), sI_ne (by omega)]
        · rw [tkq q (by omega) (by omega) (by omega) e (by omega) (by omega) (by omega) (by omega) (by omega) (by omega) (by omega) (by omega) (by omega)]
      have mM2 : (tkT o l (mkB (mkU Mp r (nI nw)) r o (nI k))).2 = M.2 := by rw [tkT_2]; exact m2
      have lnd : l.reverse.Nodup := nd_rev (List.nodup_append.mp a5).1
      have lrl : l.reverse.length = k := by rw [List.length_reverse, a6]
      have inl : ∀ p, p < k → l.reverse.getD p 0 ∈ l := fun p hp => by
        rw [← List.mem_reverse, List.getD_eq_getElem?_getD, List.getElem?_eq_getElem (by omega), Option.getD_some]
        exact List.getElem_mem _
      have HM := ct (rpT (mkZr (tkT o l (mkB (mkU Mp r (nI nw)) r o (nI k))) l (fph (Fr Dp) + s0.length) k o a ee) (fph (Fr Dp) + s0.length) 0 (nI o) (nI (nb + 1)) 0) T' (o, nx, fρ (Fr Dp) s, k, nw, un, ti, fun p => w0 + off p, gt) vs tg rfl rfl r3.symm rfl rfl (hsh o nx) (fun p hp => (hvs p hp).1)
      generalize tkT o l (mkB (mkU Mp r (nI nw)) r o (nI k)) = Mo at *
      have XO : ∀ q, ¬ (109 ≤ q ∧ q ≤ 113) → ¬ q = 142 → ¬ (144 ≤ q ∧ q ≤ 148) → (rpT (mkZr Mo l (fph (Fr Dp) + s0.length) k o a ee) (fph (Fr Dp) + s0.length) 0 (nI o) (nI (nb + 1)) 0).1 q = Mo.1 q := fun q u1 u2 u3 => by
        rw [rp_o (by omega) (by omega) (by omega) (by omega) (by omega), mkZr_o u2 (by omega) u3]
      have X14 : ∀ q, 144 ≤ q → q ≤ 148 → (rpT (mkZr Mo l (fph (Fr Dp) + s0.length) k o a ee) (fph (Fr Dp) + s0.length) 0 (nI o) (nI (nb + 1)) 0).1 q = (ptsT (sI Mo 109 0 (nI (fph (Fr Dp) + s0.length))) l.reverse (fun p => fph (Fr Dp) + s0.length + p) k).1 q := fun q u1 u2 => by
        rw [rp_o (by omega) (by omega) (by omega) (by omega) (by omega), mkZr_p (by omega)]
      have Ms : ∀ q i, 110 ≤ q → q ≤ 113 → Mo.1 q i = M.1 q i := fun q i u1 u2 => by rw [mq q (by omega)]
      have HH := HM (fun q hq => XO q (by omega) (by omega) (by omega)) (fun q hq => by
        rw [rp_o (by omega) (by omega) (by omega) (by omega) (by omega), mkZr_142 hq]
        exact m142 q hq) (fun hu => by
        rw [rp_o (by omega) (by omega) (by omega) (by omega) (by omega), mkZr_17 (h142 hu).1]
        exact (h142 hu).2) (fun q c u1 u2 hc => by
        rw [X14 q u1 u2, ptsT_c (q := c) k (fun i hi w => hc (by rw [← w]; exact inl i hi)), sI_ne (by omega)]
        exact m148 q c u1 u2 hc) (fun p hp => by
        obtain ⟨y1, y2, y3, y4, y5⟩ := ptsT_v (M := sI Mo 109 0 (nI (fph (Fr Dp) + s0.length))) (g := fun p => fph (Fr Dp) + s0.length + p) lnd k (by omega) p hp
        rw [X14 144 (by omega) (by omega), X14 145 (by omega) (by omega), X14 146 (by omega) (by omega), X14 147 (by omega) (by omega), X14 148 (by omega) (by omega), y1, y2, y3, y4, y5, sI_ne (by omega), sI_ne (by omega), sI_ne (by omega), sI_ne (by omega), Ms 110 _ (by omega) (by omega), Ms 111 _ (by omega) (by omega), Ms 112 _ (by omega) (by omega), Ms 113 _ (by omega) (by omega)]
        exact ⟨by decide, (hvs p hp).2.1⟩) (fun q u1 u2 => c1 q (by omega) (by omega) (by omega) (by omega)) (fun q c hq hc => by
        rw [c6 q c hq hc, tk q (by omega) (by omega) (by omega) (by omega) (by omega)]) c7 (fun p hp w hw' => by
        obtain ⟨v1, v2, v3, v4⟩ := hvs p hp
        obtain ⟨y1, y2⟩ := c8 (off p + w) (by omega)
        show T'.1 114 (nx + (w0 + off p) + w) = CW G (vs p) w ∧ ¬ T'.1 115 (nx + (w0 + off p) + w) = 0
        rw [show nx + (w0 + off p) + w = nx + w0 + (off p + w) by omega]
        refine ⟨?_, y2⟩
        rw [y1, t99, ← v3 w hw', Nat.add_assoc (fbs (Fr Dp) + 80 + wsl Sf s0) (off p) w])
      have tT : ∀ k, ¬ (k = 99 ∨ k = 100 ∨ k = 105 ∨ (114 ≤ k ∧ k ≤ 127 ∧ k ≠ 121)) → T'.1 k = T.1 k := fun k hk => by
        rw [c1 k (by omega) (by omega) (by omega) (by omega), tk k (by omega) (by omega) (by omega) (by omega) (by omega), to k (by omega) (by omega) (by omega) (by omega) (by omega) (by omega), sI_ne (by omega)]
      have T105 : T'.1 105 0 = nI (m + 1) := by
        rw [c1 105 (by omega) (by omega) (by omega) (by omega), tk 105 (by omega) (by omega) (by omega) (by omega) (by omega), to 105 (by omega) (by omega) (by omega) (by omega) (by omega) (by omega), sI_v]
      have Mo102 : Mo.1 102 0 = nI (n + 1) := by rw [tkq 102 (by omega) (by omega) (by omega) (by omega) (by omega) (by omega) (by omega) (by omega) (by omega) (by omega) (by omega) (by omega) (by omega), mo 102 (by omega) (by omega) (by omega), sI_v]
      refine mk_ex (v := ((0 : Int32), nb + 1, (0 : Nat))) (O := (o, nx, fρ (Fr Dp) s, k, nw, un, ti, fun p => w0 + off p, gt)) cx h rn (StR.of (by rw [w4, hn]) hn2 (by rw [w1]; exact rowR) ha hr) (StC.of (by rw [w5, hm]) (by rw [w3]; exact h51) h6 hm2 (by rw [w2]; exact rowC) ho dc) HH a1 (by show nx < 4097; omega) ⟨hk1, hk8⟩ (fun p (hp : p < k) => by
        show w0 + off p < 64
        have := (hvs p hp).2.2.2
        have : 1 ≤ wv (vs p) := by unfold wv; split <;> omega
        omega) (hti o nx) hst hI ?_ ?_ (fun i hi => ?_) (fun k' hk' => ?_) ?_ (fun q' q u1 u2 hq => ?_) tT ?_ (fun q hq => ?_) ?_ ?_ ?_ T105
      · rw [VTs_p cx.1 hc6 hq (Or.inl h66), h67, nc (by omega)]
        have gh : gHm (upG G (nb + 1) (o, nx, fρ (Fr Dp) s, k, nw, un, ti, fun p => w0 + off p, gt)) (nb + 1) = fρ (Fr Dp) s := by unfold gHm; rw [upG_b]
        refine Or.inr ⟨rfl, by show 1 ≤ nb + 1; omega, Nat.le_refl _, ?_, ?_⟩
        · show ot rg na ng (gHm (upG G (nb + 1) (o, nx, fρ (Fr Dp) s, k, nw, un, ti, fun p => w0 + off p, gt)) (nb + 1)) (fρ (Fr Dp) s)
          rw [gh, ← r3]
          exact ot.rf (z6 r r1)
        · show tgO (upG G (nb + 1) (o, nx, fρ (Fr Dp) s, k, nw, un, ti, fun p => w0 + off p, gt)) (nb + 1) 0 (tgt Sf (fρ (Fr Dp)) q)
          unfold tgO gTi gPl gUn gTy
          rw [upG_b]
          rcases htg with ⟨g1, g2⟩ | ⟨g1, g2⟩
          · rw [if_pos g1]
            exact ⟨rfl, g2⟩
          · rw [g1, if_neg (by show ¬ (0 : Nat) = 1; omega)]
            exact ⟨0, rfl, hk1, g2, rfl⟩
      · have gb : gOb (upG G (nb + 1) (o, nx, fρ (Fr Dp) s, k, nw, un, ti, fun p => w0 + off p, gt)) (nb + 1) = o := by unfold gOb; rw [upG_b]
        have := RV_mk (G := upG G (nb + 1) (o, nx, fρ (Fr Dp) s, k, nw, un, ti, fun p => w0 + off p, gt)) (v := ((0 : Int32), nb + 1, (0 : Nat))) (w := 0) rfl (by show 1 ≤ nb + 1; omega)
        rw [rp_v.1, rp_v.2.1, rp_v.2.2.1, rp_v.2.2.2]
        rw [show gOb (upG G (nb + 1) (o, nx, fρ (Fr Dp) s, k, nw, un, ti, fun p => w0 + off p, gt)) ((0 : Int32), nb + 1, (0 : Nat)).2.1 = o from gb] at this
        exact this
      · have i0 : i = 0 := by
          have : wv ((0 : Int32), nb + 1, (0 : Nat)) = 1 := rfl
          omega
        subst i0
        rw [Nat.add_zero, c4, CW_p rfl (by show 1 ≤ nb + 1; omega)]
        unfold gAd gUn gWo
        show nI (nx + 1) = nI ((upG G (nb + 1) (o, nx, fρ (Fr Dp) s, k, nw, un, ti, fun p => w0 + off p, gt) (nb + 1)).2.1 + (if (upG G (nb + 1) (o, nx, fρ (Fr Dp) s, k, nw, un, ti, fun p => w0 + off p, gt) (nb + 1)).2.2.2.2.2.1 = 0 then (upG G (nb + 1) (o, nx, fρ (Fr Dp) s, k, nw, un, ti, fun p => w0 + off p, gt) (nb + 1)).2.2.2.2.2.2.2.1 (0 : Int32).toNatClampNeg else 0) + 1)
        rw [upG_b]
        show nI (nx + 1) = nI (nx + (if un = 0 then w0 + off 0 else 0) + 1)
        by_cases c : un = 0
        · rw [if_pos c, hw00 c]
        · rw [if_neg c]
      · rw [XO k' (by omega) (by omega) (by omega), mq k' (by omega)]
      · show (mkZr Mo l (fph (Fr Dp) + s0.length) k o a ee).2 = M.2
        rw [mkZr_2, mM2]
      · rw [rp_lo u1 hq, mkZr_o (by omega) (by omega) (by omega), Ms q' q u1 u2]
      · rw [c2]
        exact t2
      · rw [c3 q hq, t99]
      · exact rp_h
      · exact c5
      · rw [XO 102 (by omega) (by omega) (by omega), Mo102]
end MK5
