/-! both machines: what is pointed to is fetched -/
section XE4
variable {M0 T0 Sf S Sh : gSt} {G G' : GH} {D D' : Nat → (Nat → AV) × Nat} {nf d d' nb nb' mk mk' na na' ng ng' e bs ph bt rb tb ie en hb k q u s i j c t h P W Dp n m it n1 : Nat} {rg rg' : Nat → Nat} {ρ : Nat → Nat} {va : Nat → AV} {M M' T T' : gSt} {v : AV} {x a b cc ee op y z w : Int32} {st s0 st' : List Int32} {ov o0 ov' : List AV} {hs : List HD} {F : FRM} {Fr : Nat → FRM} {f : Nat → Int32} {jj : T5} {r1 : Int32} {l1 : Int64} {tg : List Nat}
variable {p : Nat}
theorem wv_wS (hR : Rws Sf) (hc : cn Sf ≤ 6000) (hx : tV Sf x) (h : VT G nb rg na ng v (gty Sf ρ x)) : wv v = wS Sf x ∧ VTs Sf G nb rg na ng ρ v x := by
  have n2 : ¬ x = -2 := by
    rcases hx.row with e | ⟨p, hp⟩
    · rw [e]; decide
    · exact hp.n2 hc
  refine ⟨by rw [h.wi]; exact wg_gty hR hc hx, ?_⟩
  unfold VTs
  rw [if_neg n2]
  exact h
theorem wd_v (hc : cn Sf ≤ 6000) (hx : tV Sf x) {R : RgR} (h : wdR R Sf T0 x cc) : cc = nI (wS Sf x) := by
  rw [wd_w h, if_neg (tV_n1 hx hc)]
theorem tV_68 (hR : Rws Sf) {p : Nat} (hp : rowP Sf x p) (h69 : Sf.1 69 p < 0) : tV Sf (Sf.1 68 p) := by
  have o := (hR p hp.2.1 hp.2.2).2.2.2.2
  change (if 0 ≤ Sf.1 69 p then _ else Sf.1 68 p = 0 ∨ ∃ q, Sf.1 68 p = nI q ∧ 1 ≤ q ∧ q < p) at o
  rw [if_neg (Int32.not_le.mpr h69)] at o
  rcases o with e | ⟨q, e, q1, q2⟩
  · exact Or.inl e
  · have := hp.2.2
    exact Or.inr ⟨q, e, q1, by omega⟩
theorem xe_10 (cx : CxP M0 T0 Sf) (h : Sim M0 T0 Sf G D nb mk rg na ng P W Fr Dp M T) (rn : RnO M T) (hn : fn (Fr Dp) = n) (hm : fm (Fr Dp) = m) (hn2 : n < 12000) (h51 : T0.1 51 0 = nI n1) (hm2 : m < n1) (h6 : n1 ≤ 6032) (hR : rOk M0 jj n) (hK : KrO (RgE (eN Sf (fit (Fr Dp))) (fS (Fr Dp))) (slF (fS (Fr Dp))) Sf T0 jj m) (hty : tyJ Sf (fS (Fr Dp)) jj (fst' (Fr Dp)) st') (hI : IvP Sf (fit (Fr Dp)) (fS (Fr Dp)) st' (fhs (Fr Dp))) (hnf : 16385 ≤ nf) (hd : 20 ≤ d) (hd' : 20 ≤ d') (hj : jj.1 = 10) : ExQ nf d d' M0 T0 Sf P W mk rg na ng Fr Dp M T st' (n + 1) (m + 1) := by
  rw [tyJ_10 hj] at hty
  obtain ⟨s0, p, e1, e2, ⟨hp, hk, h69, hlv⟩, e68⟩ := hty
  subst e2
  obtain ⟨w1, w2, w3, w4, w5, w6, w7, w8, w9⟩ := h.rw (n := n) (m := m)
  obtain ⟨b1, b2, b3, b4, b5⟩ := h.bd
  obtain ⟨fr, iv⟩ := h.fr
  have hc6 : cn Sf ≤ 6000 := by have := cx.2.1; omega
  have rowR := rO_n hR (by rw [hj]; decide)
  unfold rB at rowR
  rw [hj, if_neg (by decide), if_neg (by decide), if_neg (by decide), if_neg (by decide), if_neg (by decide), if_neg (by decide)] at rowR
  unfold KrO at hK
  rw [hj, if_neg (by decide), if_neg (by decide), if_neg (by decide), if_neg (by decide), if_neg (by decide), if_neg (by decide), if_neg (by decide), if_neg (by decide), if_neg (by decide), if_pos (by decide)] at hK
  obtain ⟨v, hv, hrv, hcw⟩ := h.top e1
  have ws := wS_p hc6 hp hk
  have l1 : (fst' (Fr Dp)).length = s0.length + 1 := by rw [e1]; rfl
  have l2 : wsl Sf (fst' (Fr Dp)) = 1 + wsl Sf s0 := by rw [e1, ← ws]; rfl
  have w6' : (sI M 102 0 (nI (n + 1))).1 109 0 = nI (fph (Fr Dp) + s0.length + 1) := by rw [tp_102 (by omega), w6, l1]; rfl
  have w7' : (sI T 105 0 (nI (m + 1))).1 100 0 = nI (fbs (Fr Dp) + 80 + wsl Sf s0 + 1) := by rw [tp_105 (by omega), w7, l2]; congr 1; omega
  have TI := h.2.2.2.2.2.2.2
  have r0 : fρ (Fr Dp) 0 = 0 := fr.2.2.1.1.1
  rw [VTs_p cx.1 hc6 hp hk] at hv
  obtain ⟨cc, kw, krow⟩ := hK
  have tv := tV_68 cx.1 hp h69
  rw [← e68] at tv
  rw [wd_v hc6 tv kw] at krow
  rcases hv with ⟨_, e⟩ | ⟨a1, a2, a3, a4, a5⟩
  · subst e
    refine Or.inr (Or.inl (rz_go (d1 := d - 2) (d2 := d' - 1) h hn hm hn2 h51 hm2 h6 rowR (by decide) krow (by decide) 1 (nI (fph (Fr Dp) + s0.length)) (nI (fbs (Fr Dp) + 80 + wsl Sf s0)) (by omega) (by omega) (fun r l M' hM => ?_) (fun r l T' hT => ?_)))
    · exact x_n10 w6' (by omega) (by rw [tp_102 (by omega)]; exact RV_nul hrv) hM (by omega)
    · rw [dC_207 (by decide) (by decide) (by decide), c_pt0 w7' (by omega) (by rw [tp_105 (by omega)]; exact (hcw 0 (by decide)).trans CW_nul) (by omega), hT, bis]
  · obtain ⟨r1, r2, r3⟩ := RV_p hrv a1 a2
    have lt := gPt_lt TI a2 a3 a5
    obtain ⟨tt, to, ta, tp, tp6, tw⟩ := TI v.2.1 a2 a3
    obtain ⟨cr, ecr, hcr⟩ := (cx.1 p hp.2.1 hp.2.2).2.1
    change Sf.1 67 p = nI cr at ecr
    rw [ecr] at hlv
    rw [ecr, nc (by omega)] at a4
    obtain ⟨i, hi, he⟩ := a4.2.2 (h.alv hcr hlv)
    rw [tgt_c h69] at a5
    obtain ⟨q, x0, qp, un, ety⟩ := tgO_c a5
    obtain ⟨l, ⟨l1, l2, l3, l4, l5, l6, l7, _⟩, _⟩ := h.1.at a2 a3 hi he qp
    obtain ⟨d1, d2, d3, d4, d5, d6, d7⟩ := h.1.rd a2 a3 hi he qp
    rw [if_pos un, ← ety, ← e68] at d2
    obtain ⟨wv', vt'⟩ := wv_wS cx.1 hc6 tv d2
    have c0 : T.1 99 (fbs (Fr Dp) + 80 + wsl Sf s0) = nI (gPt G v + 1) := (hcw 0 (by rw [wv_0 a1]; omega)).trans (CW_pt a1 a2)
    have gp : gPt G v = gAd G v.2.1 + gWo G v.2.1 q := by
      unfold gPt
      rw [if_pos un, x0, nc (by omega)]
    have wl := wv_3 (v := (D v.2.1).1 q)
    refine ex_go (v := (D v.2.1).1 q) (f := fun i => (sI T 105 0 (nI (m + 1))).1 114 (gPt G v + 0 + i)) (st := [jj.2.2.1]) (s0 := s0) cx h rn hn hm hn2 h51 hm2 h6 rowR (by decide) krow (by decide) e1 hI vt' l7 (fun i hi => ?_) ?_ ?_
    · rw [tp_105 (by omega), Nat.add_zero, gp]
      exact (d1 i hi).2.2
    · rw [x_r10 (o := gOb G v.2.1) (bb := nI v.2.1) (l := l) (k := q) w6' (by omega) l1 (by rw [tp_102 (by omega)]; exact r2) (by rw [tp_102 (by omega)]; exact r3) (by rw [tp_102 (by omega)]; exact l2) (by rw [tp_102 (by omega)]; exact l3) (by omega) (by rw [tp_102 (by omega)]; show chn ((sI M 102 0 (nI (n + 1))).1 149) _ l; rw [sI_ne (by omega)]; exact l5) (by rw [tp_102 (by omega), r1]; exact x0) (by omega) (by rw [tp_102 (by omega)]; exact l6) (by omega) (by omega), tp_102 (by omega), tp_102 (by omega), tp_102 (by omega), tp_102 (by omega)]
    · rw [← wv']
      refine (dC_207 (by decide) (by decide) (by decide)).trans (c_get20 (P := P) (W := W) (s := 0) (a := gPt G v) w7' (by omega) (by rw [tp_105 (by omega)]; exact c0) (by omega) (by omega) (by omega) (d5.eq (sI_ne (by omega)) (sI_ne (by omega))) (fun i hi => ⟨?_, ?_⟩) (by omega))
      · rw [Nat.add_zero, gp]
        exact (d1 i hi).1.eq (sI_ne (by omega))
      · rw [tp_105 (by omega), Nat.add_zero, gp]
        exact (d1 i hi).2.1
theorem xe_6 (cx : CxP M0 T0 Sf) (h : Sim M0 T0 Sf G D nb mk rg na ng P W Fr Dp M T) (rn : RnO M T) (hn : fn (Fr Dp) = n) (hm : fm (Fr Dp) = m) (hn2 : n < 12000) (h51 : T0.1 51 0 = nI n1) (hm2 : m < n1) (h6 : n1 ≤ 6032) (hR : rOk M0 jj n) (hK : KrO (RgE (eN Sf (fit (Fr Dp))) (fS (Fr Dp))) (slF (fS (Fr Dp))) Sf T0 jj m) (hty : tyJ Sf (fS (Fr Dp)) jj (fst' (Fr Dp)) st') (hI : IvP Sf (fit (Fr Dp)) (fS (Fr Dp)) st' (fhs (Fr Dp))) (hnf : 16385 ≤ nf) (hd : 20 ≤ d) (hd' : 20 ≤ d') (hj : jj.1 = 6) : ExQ nf d d' M0 T0 Sf P W mk rg na ng Fr Dp M T st' (n + 1) (m + 1) := by
  rw [tyJ_6 hj] at hty
  obtain ⟨s0, p, t, f, c, e1, e2, ⟨hp, hk, h69, ht, hlv⟩, ef, hfl, tve, gte⟩ := hty
  subst e2
  obtain ⟨w1, w2, w3, w4, w5, w6, w7, w8, w9⟩ := h.rw (n := n) (m := m)
  obtain ⟨b1, b2, b3, b4, b5⟩ := h.bd
  obtain ⟨fr, iv⟩ := h.fr
  have hc6 : cn Sf ≤ 6000 := by have := cx.2.1; omega
  have rowR := rO_n hR (by rw [hj]; decide)
  unfold rB at rowR
  rw [if_pos hj] at rowR
  unfold KrO at hK
  rw [hj, if_neg (by decide), if_neg (by decide), if_neg (by decide), if_neg (by decide), if_neg (by decide), if_pos (by decide)] at hK
  obtain ⟨v, hv, hrv, hcw⟩ := h.top e1
  have ws := wS_p hc6 hp hk
  have l1 : (fst' (Fr Dp)).length = s0.length + 1 := by rw [e1]; rfl
  have l2 : wsl Sf (fst' (Fr Dp)) = 1 + wsl Sf s0 := by rw [e1, ← ws]; rfl
  have w6' : (sI M 102 0 (nI (n + 1))).1 109 0 = nI (fph (Fr Dp) + s0.length + 1) := by rw [tp_102 (by omega), w6, l1]; rfl
  have w7' : (sI T 105 0 (nI (m + 1))).1 100 0 = nI (fbs (Fr Dp) + 80 + wsl Sf s0 + 1) := by rw [tp_105 (by omega), w7, l2]; congr 1; omega
  have TI := h.2.2.2.2.2.2.2
  have r0 : fρ (Fr Dp) 0 = 0 := fr.2.2.1.1.1
  rw [VTs_p cx.1 hc6 hp hk] at hv
  obtain ⟨t', c', ⟨g, y, _, h0, h69', h24⟩, kw, krow⟩ := hK
  have i24 := cx.2.2.2.2.1
  have et : t' = t := nI_inj (by omega) (by omega) (by rw [hp.cl hc6] at h69'; rw [← h69', h69])
  subst et
  rw [wd_v hc6 tve kw] at krow
  have f8 : f < 8 := by obtain ⟨m2, _, _, q3, _, q5⟩ := hfl; omega
  have em0 : M0.1 12 (tf M0 69 jj.2.2.1).toNatClampNeg = Sf.1 12 t' := by
    unfold tf
    rw [hp.cl hc6, cx.2.2.1 69 (by omega), h69, nc (by omega), cx.2.2.1 12 (by omega)]
  rw [em0, ef] at rowR
  rw [ef] at krow
  have isu : Sf.1 12 t' = 1 ∨ ¬ Sf.1 12 t' = 1 := Decidable.em _
  rcases hv with ⟨_, e⟩ | ⟨a1, a2, a3, a4, a5⟩
  · subst e
    rcases isu with z | z
    · rw [if_pos z] at krow
      refine Or.inr (Or.inl (rz_go (d1 := d - 2) (d2 := d' - 1) h hn hm hn2 h51 hm2 h6 rowR (by decide) krow (by decide) 1 (nI (fph (Fr Dp) + s0.length)) (nI (fbs (Fr Dp) + 80 + wsl Sf s0)) (by omega) (by omega) (fun r l M' hM => ?_) (fun r l T' hT => ?_)))
      · exact x_n6 w6' (by omega) (by rw [tp_102 (by omega)]; exact RV_nul hrv) hM (by omega)
      · rw [dC_207 (by decide) (by decide) (by decide), c_pt0 w7' (by omega) (by rw [tp_105 (by omega)]; exact (hcw 0 (by decide)).trans CW_nul) (by omega), hT, bis]
    · rw [if_neg z] at krow
      refine Or.inr (Or.inl (rz_go (d1 := d - 2) (d2 := d' - 1) h hn hm hn2 h51 hm2 h6 rowR (by decide) krow (by decide) 1 (nI (fph (Fr Dp) + s0.length)) (nI (fbs (Fr Dp) + 80 + wsl Sf s0)) (by omega) (by omega) (fun r l M' hM => ?_) (fun r l T' hT => ?_)))
      · exact x_n6 w6' (by omega) (by rw [tp_102 (by omega)]; exact RV_nul hrv) hM (by omega)
      · rw [dC_207 (by decide) (by decide) (by decide), c_pt0 w7' (by omega) (by rw [tp_105 (by omega)]; exact (hcw 0 (by decide)).trans CW_nul) (by omega), hT, bis]
  · obtain ⟨r1, r2, r3⟩ := RV_p hrv a1 a2
    have lt := gPt_lt TI a2 a3 a5
    obtain ⟨tt, to, ta, tp, tp6, tw⟩ := TI v.2.1 a2 a3
    obtain ⟨cr, ecr, hcr⟩ := (cx.1 p hp.2.1 hp.2.2).2.1
    change Sf.1 67 p = nI cr at ecr
    rw [ecr] at hlv
    rw [ecr, nc (by omega)] at a4
    obtain ⟨i, hi, he⟩ := a4.2.2 (h.alv hcr hlv)
    rw [tgt_t h69 (by omega)] at a5
    obtain ⟨x0, hti⟩ := tgO_t a5
    obtain ⟨c2, m2, _, iq, sh⟩ := tit_of tt hti r0
    obtain ⟨ec, fm⟩ := iq.un (c' := c) (m' := 0) hfl
    subst ec
    have c0 : T.1 99 (fbs (Fr Dp) + 80 + wsl Sf s0) = nI (gPt G v + 1) := (hcw 0 (by rw [wv_0 a1]; omega)).trans (CW_pt a1 a2)
    rcases isu with z | z
    · rw [if_pos z] at krow sh
      rw [z] at rowR
      obtain ⟨un, pl, wo, fs⟩ := sh
      have gp : gPt G v = gAd G v.2.1 := by
        unfold gPt
        rw [if_neg un]
        rfl
      obtain ⟨l, ⟨l1, l2, l3, l4, l5, l6, l7, l8⟩, _⟩ := h.1.at (p := 0) a2 a3 hi he (by omega)
      obtain ⟨d1, d2, d3, d4, d5, d6, d7⟩ := h.1.rd (p := 0) a2 a3 hi he (by omega)
      obtain ⟨u1, u2, u3, u4, u5, u6⟩ := d4 un
      have sz : 1 ≤ gSz G v.2.1 := by have := u6 0 (by omega); omega
      have own0 : Own T P W (gPt G v) := by rw [gp]; exact d3 0 (by omega)
      by_cases tg : (D v.2.1).2 = f
      · rw [if_neg un, tg, fs f fm, ← gte] at d2
        obtain ⟨wv', vt'⟩ := wv_wS cx.1 hc6 tve d2
        have wl := wv_3 (v := (D v.2.1).1 0)
        refine ex_go (v := (D v.2.1).1 0) (f := fun i => (sI T 105 0 (nI (m + 1))).1 114 (gPt G v + 1 + i)) (st := [jj.2.2.1]) (s0 := s0) cx h rn hn hm hn2 h51 hm2 h6 rowR (by decide) krow (by decide) e1 hI vt' l7 (fun i hi => ?_) ?_ ?_
        · have := (d1 i hi).2.2
          rw [wo] at this
          rw [tp_105 (by omega), gp]
          exact this
        · rw [x_r6u (o := gOb G v.2.1) (bb := nI v.2.1) (l := l) w6' (by omega) l1 (by rw [tp_102 (by omega)]; exact r2) (by rw [tp_102 (by omega)]; exact r3) (by rw [tp_102 (by omega)]; exact l2) (by rw [tp_102 (by omega)]; exact l3) (by omega) (by rw [tp_102 (by omega)]; show chn ((sI M 102 0 (nI (n + 1))).1 149) _ l; rw [sI_ne (by omega)]; exact l5) (by rw [tp_102 (by omega), l8 un, tg]) (by omega) (by rw [tp_102 (by omega)]; exact l6) (by omega) (by omega), tp_102 (by omega), tp_102 (by omega), tp_102 (by omega), tp_102 (by omega)]
        · rw [dC_207 (by decide) (by decide) (by decide), ← wv', nI_1, c_get21 (P := P) (W := W) (a := gPt G v) w7' (by omega) (by rw [tp_105 (by omega)]; exact c0) (by omega) (by omega) (by omega) (d5.eq (sI_ne (by omega)) (sI_ne (by omega))) ⟨own0.eq (sI_ne (by omega)), by rw [tp_105 (by omega), gp]; exact u2⟩ (by rw [tp_105 (by omega), gp, u1, tg]) (fun i hi => ⟨?_, ?_⟩) (by omega)]
          · have := (d1 i hi).1
            rw [wo] at this
            rw [gp]
            exact this.eq (sI_ne (by omega))
          · have := (d1 i hi).2.1
            rw [wo] at this
            rw [tp_105 (by omega), gp]
            exact this
      · refine Or.inr (Or.inl (rz_go (d1 := d - 2) (d2 := d' - 1) h hn hm hn2 h51 hm2 h6 rowR (by decide) krow (by decide) 3 (nI (fph (Fr Dp) + s0.length)) (nI (fbs (Fr Dp) + 80 + wsl Sf s0)) (by omega) (by omega) (fun r l M' hM => ?_) (fun r l T' hT => ?_)))
        · exact x_r6t (o := gOb G v.2.1) w6' (by omega) l1 (by rw [tp_102 (by omega)]; exact r2) (by rw [tp_102 (by omega), l8 un]; exact fun w => tg (nI_inj (by omega) (by omega) w)) hM (by omega)
        · rw [dC_207 (by decide) (by decide) (by decide), nI_1, c_tag (P := P) (W := W) (a := gPt G v) w7' (by omega) (by rw [tp_105 (by omega)]; exact c0) (by omega) (d5.eq (sI_ne (by omega)) (sI_ne (by omega))) ⟨own0.eq (sI_ne (by omega)), by rw [tp_105 (by omega), gp]; exact u2⟩ (by rw [tp_105 (by omega), gp, u1]; exact fun w => tg (by have := nI_inj (by omega) (by omega) w; omega)) (by omega), hT, bis]
    · rw [if_neg z] at krow sh
      obtain ⟨s12, un, pl, fs⟩ := sh
      have w45 := iq.2.2.2.2.2.1 s12 f fm
      rw [nc (by omega), w45] at krow
      have gp : gPt G v = gAd G v.2.1 := by
        unfold gPt
        rw [if_pos un, x0, show (0 : Int32).toNatClampNeg = 0 from rfl, (fs 0 (by omega)).2, ofs_0]
        rfl
      obtain ⟨l, ⟨l1, l2, l3, l4, l5, l6, l7, l8⟩, _⟩ := h.1.at (p := f) a2 a3 hi he (by omega)
      obtain ⟨d1, d2, d3, d4, d5, d6, d7⟩ := h.1.rd (p := f) a2 a3 hi he (by omega)
      rw [(fs f fm).2] at d1
      rw [if_pos un, (fs f fm).1, ← gte] at d2
      obtain ⟨wv', vt'⟩ := wv_wS cx.1 hc6 tve d2
      have wl := wv_3 (v := (D v.2.1).1 f)
      refine ex_go (v := (D v.2.1).1 f) (f := fun i => (sI T 105 0 (nI (m + 1))).1 114 (gPt G v + ofs Sf c f + i)) (st := [jj.2.2.1]) (s0 := s0) cx h rn hn hm hn2 h51 hm2 h6 rowR (by decide) krow (by decide) e1 hI vt' l7 (fun i hi => ?_) ?_ ?_
      · rw [tp_105 (by omega), gp]
        exact (d1 i hi).2.2
      · rw [x_r6 (o := gOb G v.2.1) (bb := nI v.2.1) (l := l) (k := f) w6' (by omega) l1 (by rw [tp_102 (by omega)]; exact r2) (by rw [tp_102 (by omega)]; exact r3) (by rw [tp_102 (by omega)]; exact l2) (by rw [tp_102 (by omega)]; exact l3) (by omega) (by rw [tp_102 (by omega)]; show chn ((sI M 102 0 (nI (n + 1))).1 149) _ l; rw [sI_ne (by omega)]; exact l5) (by rw [s12]; decide) (by omega) (by rw [tp_102 (by omega)]; exact l6) (by omega) (by omega), tp_102 (by omega), tp_102 (by omega), tp_102 (by omega), tp_102 (by omega)]
      · rw [dC_207 (by decide) (by decide) (by decide), ← wv', c_get20 (P := P) (W := W) (a := gPt G v) w7' (by omega) (by rw [tp_105 (by omega)]; exact c0) (by omega) (by omega) (by omega) (d5.eq (sI_ne (by omega)) (sI_ne (by omega))) (fun i hi => ⟨?_, ?_⟩) (by omega)]
        · rw [gp]
          exact (d1 i hi).1.eq (sI_ne (by omega))
        · rw [tp_105 (by omega), gp]
          exact (d1 i hi).2.1
theorem xe_11 (cx : CxP M0 T0 Sf) (h : Sim M0 T0 Sf G D nb mk rg na ng P W Fr Dp M T) (rn : RnO M T) (hn : fn (Fr Dp) = n) (hm : fm (Fr Dp) = m) (hn2 : n < 12000) (h51 : T0.1 51 0 = nI n1) (hm2 : m < n1) (h6 : n1 ≤ 6032) (hR : rOk M0 jj n) (hK : KrO (RgE (eN Sf (fit (Fr Dp))) (fS (Fr Dp))) (slF (fS (Fr Dp))) Sf T0 jj m) (hty : tyJ Sf (fS (Fr Dp)) jj (fst' (Fr Dp)) st') (hI : IvP Sf (fit (Fr Dp)) (fS (Fr Dp)) st' (fhs (Fr Dp))) (hnf : 16385 ≤ nf) (hd : 20 ≤ d) (hd' : 20 ≤ d') (hj : jj.1 = 11) : ExQ nf d d' M0 T0 Sf P W mk rg na ng Fr Dp M T st' (n + 1) (m + 1) := by
  rw [tyJ_11 hj] at hty
  obtain ⟨s0, p, t, f, c, e1, e2, ⟨hp, hk, h69, ht, hlv⟩, h12, ef, hfl⟩ := hty
  subst e2
  obtain ⟨w1, w2, w3, w4, w5, w6, w7, w8, w9⟩ := h.rw (n := n) (m := m)
  obtain ⟨b1, b2, b3, b4, b5⟩ := h.bd
  obtain ⟨fr, iv⟩ := h.fr
  have hc6 : cn Sf ≤ 6000 := by have := cx.2.1; omega
  have rowR := rO_n hR (by rw [hj]; decide)
  unfold rB at rowR
  rw [hj, if_neg (by decide), if_neg (by decide), if_neg (by decide), if_neg (by decide), if_neg (by decide), if_neg (by decide)] at rowR
  unfold KrO at hK
  rw [hj, if_neg (by decide), if_neg (by decide), if_neg (by decide), if_neg (by decide), if_neg (by decide), if_neg (by decide), if_neg (by decide), if_neg (by decide), if_neg (by decide), if_neg (by decide), if_pos (by decide)] at hK
  obtain ⟨v, hv, hrv, hcw⟩ := h.top e1
  have ws := wS_p hc6 hp hk
  have l1 : (fst' (Fr Dp)).length = s0.length + 1 := by rw [e1]; rfl
  have l2 : wsl Sf (fst' (Fr Dp)) = 1 + wsl Sf s0 := by rw [e1, ← ws]; rfl
  have w6' : (sI M 102 0 (nI (n + 1))).1 109 0 = nI (fph (Fr Dp) + s0.length + 1) := by rw [tp_102 (by omega), w6, l1]; rfl
  have w7' : (sI T 105 0 (nI (m + 1))).1 100 0 = nI (fbs (Fr Dp) + 80 + wsl Sf s0 + 1) := by rw [tp_105 (by omega), w7, l2]; congr 1; omega
  have TI := h.2.2.2.2.2.2.2
  have r0 : fρ (Fr Dp) 0 = 0 := fr.2.2.1.1.1
  rw [VTs_p cx.1 hc6 hp hk] at hv
  have i24 := cx.2.2.2.2.1
  have f8 : f < 8 := by obtain ⟨m2, _, _, q3, _, q5⟩ := hfl; omega
  rw [ef] at rowR
  rw [ef, nI_1] at hK
  rcases hv with ⟨_, e⟩ | ⟨a1, a2, a3, a4, a5⟩
  · subst e
    refine Or.inr (Or.inl (rz_go (d1 := d - 2) (d2 := d' - 1) h hn hm hn2 h51 hm2 h6 rowR (by decide) hK (by decide) 1 (nI (fph (Fr Dp) + s0.length)) (nI (fbs (Fr Dp) + 80 + wsl Sf s0)) (by omega) (by omega) (fun r l M' hM => ?_) (fun r l T' hT => ?_)))
    · exact x_n11 w6' (by omega) (by rw [tp_102 (by omega)]; exact RV_nul hrv) hM (by omega)
    · rw [dC_207 (by decide) (by decide) (by decide), c_pt0 w7' (by omega) (by rw [tp_105 (by omega)]; exact (hcw 0 (by decide)).trans CW_nul) (by omega), hT, bis]
  · obtain ⟨r1, r2, r3⟩ := RV_p hrv a1 a2
    have lt := gPt_lt TI a2 a3 a5
    obtain ⟨tt, to, ta, tp, tp6, tw⟩ := TI v.2.1 a2 a3
    obtain ⟨cr, ecr, hcr⟩ := (cx.1 p hp.2.1 hp.2.2).2.1
    change Sf.1 67 p = nI cr at ecr
    rw [ecr] at hlv
    rw [ecr, nc (by omega)] at a4
    obtain ⟨i, hi, he⟩ := a4.2.2 (h.alv hcr hlv)
    rw [tgt_t h69 (by omega)] at a5
    obtain ⟨x0, hti⟩ := tgO_t a5
    obtain ⟨c2, m2, _, iq, sh⟩ := tit_of tt hti r0
    have c0 : T.1 99 (fbs (Fr Dp) + 80 + wsl Sf s0) = nI (gPt G v + 1) := (hcw 0 (by rw [wv_0 a1]; omega)).trans (CW_pt a1 a2)
    rw [if_pos h12] at sh
    obtain ⟨un, pl, wo, fs⟩ := sh
    have gp : gPt G v = gAd G v.2.1 := by
      unfold gPt
      rw [if_neg un]
      rfl
    obtain ⟨l, ⟨l1, l2, l3, l4, l5, l6, l7, l8⟩, _⟩ := h.1.at (p := 0) a2 a3 hi he (by omega)
    obtain ⟨d1, d2, d3, d4, d5, d6, d7⟩ := h.1.rd (p := 0) a2 a3 hi he (by omega)
    obtain ⟨u1, u2, u3, u4, u5, u6⟩ := d4 un
    have sz : 1 ≤ gSz G v.2.1 := by have := u6 0 (by omega); omega
    have own0 : Own T P W (gPt G v) := by rw [gp]; exact d3 0 (by omega)
    have e5 : (M.1 142 (gOb G v.2.1) = nI f) = ((D v.2.1).2 = f) := by
      rw [l8 un]
      exact propext ⟨fun w => nI_inj (by omega) (by omega) w, fun w => by rw [w]⟩
    have e6 : (T.1 114 (gPt G v) = nI (f + 1)) = ((D v.2.1).2 = f) := by
      rw [gp, u1]
      exact propext ⟨fun w => by have := nI_inj (by omega) (by omega) w; omega, fun w => by rw [w]⟩
    refine ex_go (p3 := 0) (p4 := 0) (v := ((if (D v.2.1).2 = f then 1 else 0), 0, 0)) (f := fun _ => (if (D v.2.1).2 = f then 1 else 0)) (st := [jj.2.2.1]) (s0 := s0) cx h rn hn hm hn2 h51 hm2 h6 rowR (by decide) hK (by decide) e1 hI VTs_0 RV_0 (fun i _ => CW_0.symm) ?_ ?_
    · rw [x_r11 (o := gOb G v.2.1) (bb := nI v.2.1) w6' (by omega) l1 (by rw [tp_102 (by omega)]; exact r2) (by rw [tp_102 (by omega)]; exact r3) (by rw [tp_102 (by omega)]; exact l2) (by omega), tp_102 (by omega)]
      simp only [e5]
    · rw [dC_207 (by decide) (by decide) (by decide), c_is22 (P := P) (W := W) (a := gPt G v) w7' (by omega) (by rw [tp_105 (by omega)]; exact c0) (by omega) (d5.eq (sI_ne (by omega)) (sI_ne (by omega))) ⟨own0.eq (sI_ne (by omega)), by rw [tp_105 (by omega), gp]; exact u2⟩ (by omega), tp_105 (by omega), ps_stW]
      simp only [e6]
      rfl
end XE4
