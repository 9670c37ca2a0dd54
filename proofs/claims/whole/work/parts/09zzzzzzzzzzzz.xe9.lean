/-! both machines: struct and union made -/
section XE9
variable {M0 T0 Sf S Sh : gSt} {G G' : GH} {D D' : Nat → (Nat → AV) × Nat} {nf d d' nb nb' mk mk' na na' ng ng' e bs ph bt rb tb ie en hb k q u s i j c t h P W Dp n m it n1 : Nat} {rg rg' : Nat → Nat} {ρ : Nat → Nat} {va : Nat → AV} {M M' T T' : gSt} {v : AV} {x a b cc ee op y z w : Int32} {st s0 st' : List Int32} {ov o0 ov' : List AV} {hs : List HD} {F : FRM} {Fr : Nat → FRM} {f : Nat → Int32} {jj : T5} {r1 : Int32} {l1 : Int64} {tg : List Nat}
theorem xe_16 (cx : CxP M0 T0 Sf) (h : Sim M0 T0 Sf G D nb mk rg na ng P W Fr Dp M T) (rn : RnO M T) (hn : fn (Fr Dp) = n) (hm : fm (Fr Dp) = m) (hn2 : n < 12000) (h51 : T0.1 51 0 = nI n1) (hm2 : m < n1) (h6 : n1 ≤ 6032) (hR : rOk M0 jj n) (hK : KrO (RgE (eN Sf (fit (Fr Dp))) (fS (Fr Dp))) (slF (fS (Fr Dp))) Sf T0 jj m) (hty : tyJ Sf (fS (Fr Dp)) jj (fst' (Fr Dp)) st') (hI : IvP Sf (fit (Fr Dp)) (fS (Fr Dp)) st' (fhs (Fr Dp))) (hnf : 16385 ≤ nf) (hd : 20 ≤ d) (hd' : 20 ≤ d') (hmk : mk + 1 < 2 ^ 31) (hj : jj.1 = 16) : ExQ nf d d' M0 T0 Sf P W mk rg na ng Fr Dp M T st' (n + 1) (m + 1) := by
  rw [tyJ_16 hj] at hty
  obtain ⟨s0, ts, t, w, c, e, e1, e2, lv, ⟨q, hq, hz⟩, ht, pk, ⟨h15, he3, hsg⟩, h12, h18, h19, ⟨ts8, cl⟩, ag⟩ := hty
  subst e2
  obtain ⟨w1, w2, w3, w4, w5, w6, w7, w8, w9⟩ := h.rw (n := n) (m := m)
  obtain ⟨b1, b2, b3, b4, b5⟩ := h.bd
  obtain ⟨fr, iv⟩ := h.fr
  have hc6 : cn Sf ≤ 6000 := by have := cx.2.1; omega
  have rowR := rO_n hR (by rw [hj]; decide)
  unfold rB at rowR
  rw [hj, if_neg (by decide), if_neg (by decide), if_neg (by decide), if_pos (by decide)] at rowR
  unfold KrO at hK
  rw [hj, if_neg (by decide), if_neg (by decide), if_neg (by decide), if_neg (by decide), if_neg (by decide), if_neg (by decide), if_neg (by decide), if_neg (by decide), if_neg (by decide), if_neg (by decide), if_neg (by decide), if_neg (by decide), if_neg (by decide), if_neg (by decide), if_pos (by decide)] at hK
  obtain ⟨b0, t', ⟨r', b', er, eb, hrb⟩, ⟨g, yy, _, h0, h69', h24⟩, krow⟩ := hK
  obtain ⟨s, es, hs⟩ := lv.1
  have err : r' = s := nI_inj (by have := hrb.lt.1; omega) (by omega) (by rw [← er, es])
  subst err
  obtain ⟨z1, z2, z3, z4, z5⟩ := rwT_g hz
  have i24 := cx.2.2.2.2.1
  obtain ⟨c', m', iq⟩ := cx.2.2.2.2.2 t ht
  have r0 : fρ (Fr Dp) 0 = 0 := fr.2.2.1.1.1
  have tf0 : tf M0 69 jj.2.2.1 = nI t := by
    unfold tf
    rw [cx.2.2.1 69 (by omega), hq.cl hc6]
    exact z4
  have et : t' = t := nI_inj (by omega) (by omega) (by rw [hq.cl hc6] at h69'; rw [← h69']; exact z4)
  subst et
  rw [tf0, es] at rowR
  rw [es] at lv
  have en : eN Sf t' = e := by unfold eN; rw [h15, nc (by omega)]
  rw [← en] at hsg
  have en3 : eN Sf t' ≤ 3 := by omega
  obtain ⟨r0', _, er0, _⟩ := h.rgn lv hs
  have hM := cx_m (n := n) cx h
  have cnM : cn (sI M 102 0 (nI (n + 1))) = cn Sf := by unfold cn; rw [hM 65 (by omega)]
  have tgq : tgt Sf (fρ (Fr Dp)) q = 1 :: t' :: (List.range (eN Sf t')).map (fun k => fρ (Fr Dp) (ptOf w (nI k)).toNatClampNeg) := by
    rw [tgt_t (show Sf.1 69 q = nI t' from z4) (by omega), show Sf.1 70 q = w from z5]
  have tyf := iq.2.2.2.2.2.2.2.1
  have ec : c' = c := nI_inj (by have := iq.2.2.2.1; omega) (by omega) (by rw [← iq.1, h18])
  subst ec
  have em : m' = ts.length := nI_inj (by have := iq.2.2.1; omega) (by omega) (by rw [← iq.2.1, h19])
  subst em
  have l1 : 1 ≤ ts.length := iq.2.2.2.2.2.2.2.2.2.1 (by rw [h12]; decide)
  have c220 := iq.2.2.2.1
  have w41 := iq.2.2.2.2.2.2.1
  rw [if_neg (by rw [h12]; decide)] at w41
  rw [w41, eb] at krow
  obtain ⟨ob1, ob2⟩ := ofs_b (Sf := Sf) (c := c') ts.length
  have op := fr.2.1
  rw [e1] at op
  obtain ⟨vs, hvs⟩ := OpV.seg ts.reverse s0 _ op
  have lr : ts.reverse.length = ts.length := List.length_reverse
  have val : ∀ p, p < ts.length → VT G nb rg na ng (vs p) (gty Sf (idρ (fun k => fρ (Fr Dp) (ptOf w (nI k)).toNatClampNeg)) (Sf.1 24 (c' + p))) ∧ wv (vs p) = wS Sf (Sf.1 24 (c' + p)) ∧ wS Sf (ts.reverse.getD (ts.reverse.length - 1 - p) 0) = wS Sf (Sf.1 24 (c' + p)) := fun p hp => by
    obtain ⟨v1, _, _⟩ := hvs p (by omega)
    obtain ⟨tv, tyo⟩ := tyf p hp
    obtain ⟨y, ty1, ty2, ty3⟩ := ag p hp
    have mem : ts.getD p 0 ∈ fst' (Fr Dp) := by
      rw [e1]
      refine List.mem_append_left _ (List.mem_reverse.mpr ?_)
      rw [List.getD_eq_getElem?_getD, List.getElem?_eq_getElem hp, Option.getD_some]
      exact List.getElem_mem _
    have v1' := v1
    rw [rev_gd ts hp] at v1' ⊢
    have fit := VTs.fit cx h v1' ty2 (ft_in tyo en3 hsg ty3)
    rw [ty3] at fit
    change VT G nb rg na ng (vs p) (gty Sf (chρ (fρ (Fr Dp)) w) (Sf.1 24 (c' + p))) at fit
    rw [← id_ch tyo en3 r0] at fit
    have wi1 := VTs.wi cx.1 hc6 ((iv.2.2.2.1 _ mem).imp id (fun w => w.1)) v1'
    have wi2 : wv (vs p) = wS Sf (Sf.1 24 (c' + p)) := by rw [fit.wi]; exact wg_gty cx.1 hc6 tv
    exact ⟨fit, wi2, by rw [← wi1, wi2]⟩
  have so := seg_o (Sf := Sf) (c := c') ts.reverse (fun p hp => (val p (by omega)).2.2)
  have ws1 : wsl Sf ts.reverse = ofs Sf c' ts.length := by
    have := so ts.length (by omega)
    rw [lr, Nat.sub_self] at this
    exact this
  have ofl : ∀ p, p < ts.length → ofs Sf c' p + wS Sf (Sf.1 24 (c' + p)) ≤ ofs Sf c' ts.length := fun p hp => by
    have := ofs_mo (Sf := Sf) (c := c') (ts.length - (p + 1)) (p + 1)
    rw [ofs, show p + 1 + (ts.length - (p + 1)) = ts.length by omega] at this
    exact this
  obtain ⟨oM, _⟩ := ofs_m (c := c') (hM 24 (by omega)) (hM 66 (by omega)) ts.length
  obtain ⟨P2, hP2, hlp⟩ := mb_loop (M := sI M 102 0 (nI (n + 1))) (nf := nf) (d := d - 2) (t := t') (c := c') (m := ts.length) (x1 := 16) (x4 := 0) (x5 := nI r0') (x6 := nI ts.length) (Or.inl rfl) (by omega) ts8 c220 (by rw [hM 18 (by omega)]; exact h18) (by rw [hM 19 (by omega)]; exact h19) (fun f hf => by
    rw [hM 24 (by omega)]
    unfold tV
    rw [cnM]
    exact (tyf f hf).1) (by omega) (by omega) ts.length 0 nf (0 : Int64) (by omega) (by omega) (by rw [if_pos rfl, ofs]; decide)
  rw [if_pos rfl, oM] at hP2
  have l2 : wsl Sf (fst' (Fr Dp)) = ofs Sf c' ts.length + wsl Sf s0 := by rw [e1, wsl_ap, ws1]
  refine mk_go (st := ts.reverse) (k := ts.length) (nw := ofs Sf c' ts.length) (ws := ofs Sf c' ts.length) (w0 := 0) (un := 0) (tg := 0) (p2 := P2) cx h rn hn hm hn2 h51 hm2 h6 rowR (by decide) krow (by decide) e1 hI hs lv hrb lr l1 (by omega) ob1 ws1 (by omega) (by omega) hP2 (fun r hr => ?_) (fun T2 h2 => ?_) (fun T2 i h2 hi h100 hpg how => ?_) vs (fun p => ofs Sf c' p) (1 :: t' :: (List.range (eN Sf t')).map (fun k => fρ (Fr Dp) (ptOf w (nI k)).toNatClampNeg)) (fun p => gty Sf (idρ (fun k => fρ (Fr Dp) (ptOf w (nI k)).toNatClampNeg)) (Sf.1 24 (c' + p))) (fun p hp => ?_) (fun o nx => ?_) (fun o nx => ?_) hq z1 (by rw [z2]; exact es) (Or.inl ⟨by rw [tgq]; rfl, tgq⟩) (fun w => absurd rfl w) (fun _ => rfl) hmk hnf hd hd'
  · have er' : nI r = nI r0' := by rw [← hr, er0]
    rw [x_mb (k := ts.length) (e := Dp) (r := r) (Or.inr (Or.inl rfl)) (by rw [tp_102 (by omega)]; exact w8) (by omega) hs (by rw [tp_102 (by omega)]; exact hr) (by rw [if_pos rfl]; exact ⟨t', rfl, by omega, by rw [hM 19 (by omega)]; exact h19⟩) (by omega), er']
    refine congrArg (fun z => bi z (fun _ _ T => some ((0 : Int32), (0 : Int64), T))) ?_
    unfold rj_Model_makeBy_37
    rw [if_neg (by decide), if_neg (by decide)]
    exact hlp
  · rw [dC_211 (by decide) (by decide) (by decide) (by decide) (by decide)]
    exact c_mk0 (Or.inl rfl) (y := nI b') (z := nI (ofs Sf c' ts.length)) rfl rfl h2 (by omega)
  · refine ⟨_, ?_, cm_40 (by omega)⟩
    rw [dC_211 (by decide) (by decide) (by decide) (by decide) (by decide)]
    exact c_m40 h2 hi h100 (by omega) (by omega) (by omega) hpg how (by omega)
  · obtain ⟨v1, v2, v3⟩ := hvs p (by omega)
    obtain ⟨y1, y2, y3⟩ := val p hp
    have := so p (by omega)
    rw [this] at v3
    exact ⟨y1, v2, v3, by have := ofl p hp; show ofs Sf c' p + wv (vs p) ≤ _; omega⟩
  · have wgf : ∀ p, p < ts.length → wg (gty Sf (idρ (fun k => fρ (Fr Dp) (ptOf w (nI k)).toNatClampNeg)) (Sf.1 24 (c' + p))) = wS Sf (Sf.1 24 (c' + p)) := fun p hp => wg_gty cx.1 hc6 (tyf p hp).1
    refine ⟨fun _ => ⟨fun p hp => ?_, fun p q hpq hq => ?_⟩, fun w => absurd rfl w⟩
    · show 0 + ofs Sf c' p + wg (gty Sf (idρ (fun k => fρ (Fr Dp) (ptOf w (nI k)).toNatClampNeg)) (Sf.1 24 (c' + p))) ≤ _
      have := ofl p hp
      rw [wgf p hp]
      omega
    · show 0 + ofs Sf c' p + wg (gty Sf (idρ (fun k => fρ (Fr Dp) (ptOf w (nI k)).toNatClampNeg)) (Sf.1 24 (c' + p))) ≤ 0 + ofs Sf c' q
      have := ofs_mo (Sf := Sf) (c := c') (q - (p + 1)) (p + 1)
      rw [ofs, show p + 1 + (q - (p + 1)) = q by omega] at this
      rw [wgf p (by omega)]
      omega
  · refine Or.inr ⟨t', c', ts.length, fun k => fρ (Fr Dp) (ptOf w (nI k)).toNatClampNeg, ht, iq, ?_, ?_⟩
    · unfold gTi
      rw [upG_b]
    · rw [if_neg (by rw [h12]; decide)]
      unfold gUn gPl gTy gWo
      rw [upG_b]
      exact ⟨h12, rfl, rfl, fun f hf => ⟨rfl, Nat.zero_add _⟩⟩
theorem xe_17 (cx : CxP M0 T0 Sf) (h : Sim M0 T0 Sf G D nb mk rg na ng P W Fr Dp M T) (rn : RnO M T) (hn : fn (Fr Dp) = n) (hm : fm (Fr Dp) = m) (hn2 : n < 12000) (h51 : T0.1 51 0 = nI n1) (hm2 : m < n1) (h6 : n1 ≤ 6032) (hR : rOk M0 jj n) (hK : KrO (RgE (eN Sf (fit (Fr Dp))) (fS (Fr Dp))) (slF (fS (Fr Dp))) Sf T0 jj m) (hty : tyJ Sf (fS (Fr Dp)) jj (fst' (Fr Dp)) st') (hI : IvP Sf (fit (Fr Dp)) (fS (Fr Dp)) st' (fhs (Fr Dp))) (hnf : 16385 ≤ nf) (hd : 20 ≤ d) (hd' : 20 ≤ d') (hmk : mk + 1 < 2 ^ 31) (hj : jj.1 = 17) (hfw : FwQ Sf T0) : ExQ nf d d' M0 T0 Sf P W mk rg na ng Fr Dp M T st' (n + 1) (m + 1) := by
  rw [tyJ_17 hj] at hty
  obtain ⟨s0, x, t, w, f, c, e, e1, e2, lv, ⟨q, hq, hz⟩, ht, pk, ⟨h15, he3, hsg⟩, h12, ef, hfl, y, ty1, ty2, ty3⟩ := hty
  subst e2
  obtain ⟨w1, w2, w3, w4, w5, w6, w7, w8, w9⟩ := h.rw (n := n) (m := m)
  obtain ⟨b1, b2, b3, b4, b5⟩ := h.bd
  obtain ⟨fr, iv⟩ := h.fr
  have hc6 : cn Sf ≤ 6000 := by have := cx.2.1; omega
  have rowR := rO_n hR (by rw [hj]; decide)
  unfold rB at rowR
  rw [hj, if_neg (by decide), if_neg (by decide), if_neg (by decide), if_neg (by decide), if_pos (by decide)] at rowR
  unfold KrO at hK
  rw [hj, if_neg (by decide), if_neg (by decide), if_neg (by decide), if_neg (by decide), if_neg (by decide), if_neg (by decide), if_neg (by decide), if_neg (by decide), if_neg (by decide), if_neg (by decide), if_neg (by decide), if_neg (by decide), if_neg (by decide), if_neg (by decide), if_neg (by decide), if_pos (by decide)] at hK
  obtain ⟨b0, t', yy, ⟨r', b', er, eb, hrb⟩, ⟨g, yy', _, h0, h69', h24⟩, h44, yl, _, krow⟩ := hK
  obtain ⟨s, es, hs⟩ := lv.1
  have err : r' = s := nI_inj (by have := hrb.lt.1; omega) (by omega) (by rw [← er, es])
  subst err
  obtain ⟨z1, z2, z3, z4, z5⟩ := rwT_g hz
  have i24 := cx.2.2.2.2.1
  obtain ⟨c', m', iq⟩ := cx.2.2.2.2.2 t ht
  have r0 : fρ (Fr Dp) 0 = 0 := fr.2.2.1.1.1
  have tf0 : tf M0 69 jj.2.2.1 = nI t := by
    unfold tf
    rw [cx.2.2.1 69 (by omega), hq.cl hc6]
    exact z4
  have et : t' = t := nI_inj (by omega) (by omega) (by rw [hq.cl hc6] at h69'; rw [← h69']; exact z4)
  subst et
  rw [tf0, es] at rowR
  rw [es] at lv
  have en : eN Sf t' = e := by unfold eN; rw [h15, nc (by omega)]
  rw [← en] at hsg
  have en3 : eN Sf t' ≤ 3 := by omega
  obtain ⟨r0', _, er0, _⟩ := h.rgn lv hs
  have hM := cx_m (n := n) cx h
  have cnM : cn (sI M 102 0 (nI (n + 1))) = cn Sf := by unfold cn; rw [hM 65 (by omega)]
  have tgq : tgt Sf (fρ (Fr Dp)) q = 1 :: t' :: (List.range (eN Sf t')).map (fun k => fρ (Fr Dp) (ptOf w (nI k)).toNatClampNeg) := by
    rw [tgt_t (show Sf.1 69 q = nI t' from z4) (by omega), show Sf.1 70 q = w from z5]
  have tyf := iq.2.2.2.2.2.2.2.1
  obtain ⟨ec, fm⟩ := iq.un (c' := c) (m' := 0) hfl
  subst ec
  have c220 := iq.2.2.2.1
  have m8 := iq.2.2.1
  have w41 := iq.2.2.2.2.2.2.1
  rw [if_pos h12] at w41
  obtain ⟨mb1, mb2⟩ := mxs_b (Sf := Sf) (c := c) m'
  have mf := mb2 f fm
  have w1f := wS_1 (S := Sf) (x := Sf.1 24 (c + f))
  obtain ⟨tv, tyo⟩ := tyf f fm
  obtain ⟨v, hv, hrv, hcw⟩ := h.top e1
  have fit := VTs.fit cx h hv ty2 (ft_in tyo en3 hsg ty3)
  rw [ty3] at fit
  change VT G nb rg na ng v (gty Sf (chρ (fρ (Fr Dp)) w) (Sf.1 24 (c + f))) at fit
  rw [← id_ch tyo en3 r0] at fit
  have wi1 := VTs.wi cx.1 hc6 ((iv.2.2.2.1 x (by rw [e1]; exact List.mem_cons_self)).imp id (fun w => w.1)) hv
  have wi2 : wv v = wS Sf (Sf.1 24 (c + f)) := by rw [fit.wi]; exact wg_gty cx.1 hc6 tv
  rw [ef, nc (by omega)] at h44
  obtain ⟨y2, yy1, yy2, yy3⟩ := hfw t' f c ht hfl
  have ey : y2 = yy := nI_inj (by omega) (by omega) (by rw [← yy1, h44])
  subst ey
  rw [yy3, w41, ef, eb] at krow
  rw [ef] at rowR
  obtain ⟨bt1, bt2⟩ := bt_41 (b := b') (j := f) (hrb.lt.2) (by omega)
  obtain ⟨bt3, bt4⟩ := bt_41b (w := wS Sf (Sf.1 24 (c + f))) (n := 1 + mxs Sf c m') (by omega) (by omega)
  obtain ⟨_, oM⟩ := ofs_m (c := c) (hM 24 (by omega)) (hM 66 (by omega)) m'
  obtain ⟨P2, hP2, hlp⟩ := mb_loop (M := sI M 102 0 (nI (n + 1))) (nf := nf) (d := d - 2) (t := t') (c := c) (m := m') (x1 := 17) (x4 := nI f) (x5 := nI r0') (x6 := 1) (Or.inr rfl) (by omega) m8 c220 (by rw [hM 18 (by omega)]; exact iq.1) (by rw [hM 19 (by omega)]; exact iq.2.1) (fun f hf => by
    rw [hM 24 (by omega)]
    unfold tV
    rw [cnM]
    exact (tyf f hf).1) (by omega) (by omega) m' 0 nf (1 : Int64) (by omega) (by omega) (by rw [if_neg (by decide)]; decide)
  rw [if_neg (by decide), oM] at hP2
  have ws1 : wsl Sf [x] = wS Sf (Sf.1 24 (c + f)) := by rw [← wi2, wi1]; exact Nat.add_zero _
  have l2 : wsl Sf (fst' (Fr Dp)) = wS Sf (Sf.1 24 (c + f)) + wsl Sf s0 := by rw [e1, ← wi2, wi1]; rfl
  refine mk_go (st := [x]) (k := 1) (nw := 1 + mxs Sf c m') (ws := wS Sf (Sf.1 24 (c + f))) (w0 := 1) (un := 1) (tg := f) (p2 := P2) cx h rn hn hm hn2 h51 hm2 h6 rowR (by decide) krow (by decide) e1 hI hs lv hrb rfl (by omega) (by omega) (by omega) ws1 (by omega) (by omega) hP2 (fun r hr => ?_) (fun T2 h2 => ?_) (fun T2 i h2 hi h100 hpg how => ?_) (fun _ => v) (fun _ => 0) (1 :: t' :: (List.range (eN Sf t')).map (fun k => fρ (Fr Dp) (ptOf w (nI k)).toNatClampNeg)) (fun p => if p < m' then gty Sf (idρ (fun k => fρ (Fr Dp) (ptOf w (nI k)).toNatClampNeg)) (Sf.1 24 (c + p)) else []) (fun p hp => ?_) (fun o nx => ?_) (fun o nx => ?_) hq z1 (by rw [z2]; exact es) (Or.inl ⟨by rw [tgq]; rfl, tgq⟩) (fun _ => ⟨rfl, rfl⟩) (fun w => absurd w (by decide)) hmk hnf hd hd'
  · have er' : nI r = nI r0' := by rw [← hr, er0]
    rw [x_mb (k := 1) (e := Dp) (r := r) (Or.inr (Or.inr rfl)) (by rw [tp_102 (by omega)]; exact w8) (by omega) hs (by rw [tp_102 (by omega)]; exact hr) (by rw [if_neg (by decide)]) (by omega), er']
    refine congrArg (fun z => bi z (fun _ _ T => some ((0 : Int32), (0 : Int64), T))) ?_
    unfold rj_Model_makeBy_37
    rw [if_neg (by decide), if_pos rfl]
    exact hlp
  · rw [dC_211 (by decide) (by decide) (by decide) (by decide) (by decide)]
    exact c_mk0 (Or.inr rfl) (by rw [if_neg (by decide), bt1]) (by rw [if_neg (by decide), bt4]) h2 (by omega)
  · refine ⟨_, ?_, cm_41 (by omega)⟩
    rw [dC_211 (by decide) (by decide) (by decide) (by decide) (by decide)]
    exact c_m41 bt1 bt2 bt3 bt4 h2 hi h100 (by omega) (by omega) (by omega) (by omega) hpg how (by omega)
  · have p0 : p = 0 := by omega
    subst p0
    refine ⟨?_, hrv, fun w hw => hcw w hw, by show 0 + wv v ≤ _; omega⟩
    show VT G nb rg na ng v (if f < m' then gty Sf (idρ (fun k => fρ (Fr Dp) (ptOf w (nI k)).toNatClampNeg)) (Sf.1 24 (c + f)) else [])
    rw [if_pos fm]
    exact fit
  · refine ⟨fun w => absurd w (show ¬ (1 : Nat) = 0 by decide), fun _ => ⟨rfl, rfl, by omega, fun i hi => ?_⟩⟩
    show 1 + wg (if i < m' then gty Sf (idρ (fun k => fρ (Fr Dp) (ptOf w (nI k)).toNatClampNeg)) (Sf.1 24 (c + i)) else []) ≤ _
    by_cases z : i < m'
    · rw [if_pos z, wg_gty cx.1 hc6 (tyf i z).1]
      have := mb2 i z
      omega
    · rw [if_neg z]
      show 1 + 1 ≤ _
      omega
  · refine Or.inr ⟨t', c, m', fun k => fρ (Fr Dp) (ptOf w (nI k)).toNatClampNeg, ht, iq, ?_, ?_⟩
    · unfold gTi
      rw [upG_b]
    · rw [if_pos h12]
      unfold gUn gPl gTy gWo
      rw [upG_b]
      exact ⟨by show ¬ (1 : Nat) = 0; decide, rfl, rfl, fun f hf => if_pos hf⟩
end XE9
