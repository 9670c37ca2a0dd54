/-! both machines: elements of ROWS -/
section XE5
variable {M0 T0 Sf S Sh : gSt} {G G' : GH} {D D' : Nat → (Nat → AV) × Nat} {nf d d' nb nb' mk mk' na na' ng ng' e bs ph bt rb tb ie en hb k q u s i j c t h P W Dp n m it n1 : Nat} {rg rg' : Nat → Nat} {ρ : Nat → Nat} {va : Nat → AV} {M M' T T' : gSt} {v : AV} {x a b cc ee op y z w : Int32} {st s0 st' : List Int32} {ov o0 ov' : List AV} {hs : List HD} {F : FRM} {Fr : Nat → FRM} {f : Nat → Int32} {jj : T5} {r1 : Int32} {l1 : Int64} {tg : List Nat}
variable {p : Nat}
theorem nI_clx (h : ¬ x < 0) : nI x.toNatClampNeg = x ∧ x.toNatClampNeg < 2 ^ 31 := by
  have h0 : 0 ≤ x.toInt := by
    have := Int32.not_lt.mp h
    rw [Int32.le_iff_toInt_le] at this
    exact this
  have hl : x.toInt < 2 ^ 31 := Int32.toInt_lt x
  have e : x.toNatClampNeg = x.toInt.toNat := rfl
  have lt : x.toNatClampNeg < 2 ^ 31 := by rw [e]; omega
  refine ⟨?_, lt⟩
  apply Int32.toInt_inj.mp
  rw [nI_toInt lt, e]
  omega
theorem nI_ltn (h : ¬ x < 0) (hs : s < 2 ^ 31) (h2 : x < nI s) : x.toNatClampNeg < s := by
  obtain ⟨h1, h3⟩ := nI_clx h
  rw [← h1, Int32.lt_iff_toInt_lt, nI_toInt h3, nI_toInt hs] at h2
  omega
theorem RV_r (h : RV G v x y z w) (h1 : ¬ v.2.2 = 0) : x = v.1 ∧ w = nI (v.2.2 - 1) ∧ (1 < v.2.2 → y = nI (gOb G v.2.1) ∧ z = nI v.2.1) := by
  unfold RV at h
  rw [if_neg h1] at h
  exact h
theorem CW_r (h1 : ¬ v.2.2 = 0) : CW G v 1 = v.1 ∧ CW G v 2 = nI (v.2.2 - 1) ∧ (1 < v.2.2 → CW G v 0 = nI (gAd G v.2.1 + 1)) := by
  unfold CW
  rw [if_neg h1, if_neg h1, if_neg h1]
  refine ⟨by rw [if_neg (by omega), if_pos rfl], by rw [if_neg (by omega), if_neg (by omega)], fun h => by rw [if_pos rfl, if_neg (by omega)]⟩
theorem RV_i (h : RV G v x y z w) (h1 : v.2.1 = 0) (h2 : v.2.2 = 0) : x = v.1 := by
  unfold RV at h
  exact h.1
theorem CW_i (h1 : v.2.1 = 0) (h2 : v.2.2 = 0) : CW G v i = v.1 := by
  unfold CW
  rw [if_pos h2, if_pos h1]
theorem tit_r {b : Nat} (hT : titO Sf T0 G b) (hti : gTi G b = []) : gUn G b = 0 ∧ ∃ g0, ∀ p, p < gPl G b → gTy G b p = g0 ∧ gWo G b p = p * wg g0 := by
  rcases hT with ⟨_, z1, z2⟩ | ⟨t', c, m, ids, t1, t2, t3, t4⟩
  · exact ⟨z1, z2⟩
  · rw [hti] at t3
    exact absurd t3 (by simp)
theorem xe_8 (cx : CxP M0 T0 Sf) (h : Sim M0 T0 Sf G D nb mk rg na ng P W Fr Dp M T) (rn : RnO M T) (hn : fn (Fr Dp) = n) (hm : fm (Fr Dp) = m) (hn2 : n < 12000) (h51 : T0.1 51 0 = nI n1) (hm2 : m < n1) (h6 : n1 ≤ 6032) (hR : rOk M0 jj n) (hK : KrO (RgE (eN Sf (fit (Fr Dp))) (fS (Fr Dp))) (slF (fS (Fr Dp))) Sf T0 jj m) (hty : tyJ Sf (fS (Fr Dp)) jj (fst' (Fr Dp)) st') (hI : IvP Sf (fit (Fr Dp)) (fS (Fr Dp)) st' (fhs (Fr Dp))) (hnf : 16385 ≤ nf) (hd : 20 ≤ d) (hd' : 20 ≤ d') (hj : jj.1 = 8) : ExQ nf d d' M0 T0 Sf P W mk rg na ng Fr Dp M T st' (n + 1) (m + 1) := by
  rw [tyJ_8 hj] at hty
  obtain ⟨s0, p, e1, e2, ⟨hp, hk, h69, hlv⟩, e68⟩ := hty
  subst e2
  obtain ⟨w1, w2, w3, w4, w5, w6, w7, w8, w9⟩ := h.rw (n := n) (m := m)
  obtain ⟨b1, b2, b3, b4, b5⟩ := h.bd
  obtain ⟨fr, iv⟩ := h.fr
  have hc6 : cn Sf ≤ 6000 := by have := cx.2.1; omega
  have rowR := rO_n hR (by rw [hj]; decide)
  unfold rB at rowR
  rw [hj, if_neg (by decide), if_pos (by decide)] at rowR
  unfold KrO at hK
  rw [hj, if_neg (by decide), if_neg (by decide), if_neg (by decide), if_neg (by decide), if_neg (by decide), if_neg (by decide), if_neg (by decide), if_pos (by decide)] at hK
  obtain ⟨cc, kw, krow⟩ := hK
  have tv0 := tV_68 cx.1 hp h69
  rw [e68] at kw
  rw [wd_v hc6 tv0 kw] at krow
  obtain ⟨vi, hvi, hrvi, hcwi⟩ := h.top e1
  obtain ⟨v, hv, hrv, hcw⟩ := h.top2 e1
  have ws := wS_r hc6 hp hk
  have TI := h.2.2.2.2.2.2.2
  have l1 : (fst' (Fr Dp)).length = s0.length + 2 := by rw [e1]; rfl
  have ls : wsl Sf (jj.2.1 :: s0) = 3 + wsl Sf s0 := by rw [← ws]; rfl
  have l2 : wsl Sf (fst' (Fr Dp)) = 4 + wsl Sf s0 := by
    rw [e1, show wsl Sf (0 :: jj.2.1 :: s0) = wS Sf 0 + wsl Sf (jj.2.1 :: s0) from rfl, wS_0, ls]
    omega
  have w6' : (sI M 102 0 (nI (n + 1))).1 109 0 = nI (fph (Fr Dp) + s0.length + 2) := by rw [tp_102 (by omega), w6, l1]; rfl
  have w7' : (sI T 105 0 (nI (m + 1))).1 100 0 = nI (fbs (Fr Dp) + 80 + wsl Sf s0 + 4) := by rw [tp_105 (by omega), w7, l2]; congr 1; omega
  obtain ⟨i1, i2⟩ := hvi.i0
  rw [List.length_cons] at hrvi
  rw [ls] at hcwi
  have m1 : M.1 110 (fph (Fr Dp) + s0.length + 1) = vi.1 := RV_i hrvi i1 i2
  have t3 : T.1 99 (fbs (Fr Dp) + 80 + wsl Sf s0 + 3) = vi.1 := by
    have := hcwi 0 (by rw [wv_0 i2]; omega)
    rw [CW_i i1 i2, show fbs (Fr Dp) + 80 + (3 + wsl Sf s0) + 0 = fbs (Fr Dp) + 80 + wsl Sf s0 + 3 by omega] at this
    exact this
  rw [VTs_r cx.1 hc6 hp hk] at hv
  have v1 : ¬ v.2.2 = 0 := by
    rcases hv with z | z
    · omega
    · have := z.1; omega
  have wv3 : wv v = 3 := if_neg v1
  obtain ⟨m0, m3, m4⟩ := RV_r hrv v1
  obtain ⟨c1, c2, c3⟩ := CW_r (G := G) v1
  have t1 : T.1 99 (fbs (Fr Dp) + 80 + wsl Sf s0 + 1) = v.1 := (hcw 1 (by omega)).trans c1
  have t2 : T.1 99 (fbs (Fr Dp) + 80 + wsl Sf s0 + 2) = nI (v.2.2 - 1) := (hcw 2 (by omega)).trans c2
  by_cases ob : v.1 + vi.1 < 0 ∨ ¬ v.1 + vi.1 < nI (v.2.2 - 1)
  · refine Or.inr (Or.inl (rz_go (d1 := d - 2) (d2 := d' - 1) h hn hm hn2 h51 hm2 h6 rowR (by decide) krow (by decide) 2 (nI (fph (Fr Dp) + s0.length)) (nI (fbs (Fr Dp) + 80 + wsl Sf s0)) (by omega) (by omega) (fun r l M' hM => ?_) (fun r l T' hT => ?_)))
    · exact x_b8 w6' (by omega) (by rw [tp_102 (by omega), tp_102 (by omega), tp_102 (by omega), m0, m1, m3]; exact ob) hM (by omega)
    · rw [dC_210 (by decide) (by decide) (by decide) (by decide), c_ix0 w7' (by omega) (by rw [tp_105 (by omega), tp_105 (by omega), tp_105 (by omega), t1, t2, t3]; exact ob) (by omega), hT, bis]
  · have ob1 : ¬ v.1 + vi.1 < 0 := fun w => ob (Or.inl w)
    have ob2 : v.1 + vi.1 < nI (v.2.2 - 1) := Decidable.byContradiction fun w => ob (Or.inr w)
    have n1v : ¬ v.2.2 = 1 := fun w => by
      rw [w] at ob2
      exact ob1 ob2
    obtain ⟨a1, a2, a3, apl, aun, ati, a4, a5⟩ := hv.resolve_left n1v
    obtain ⟨tt, to, ta, tp, tp6, tw⟩ := TI v.2.1 a2 a3
    have kl := nI_ltn ob1 (by omega) ob2
    have ke := (nI_clx ob1).1
    generalize (v.1 + vi.1).toNatClampNeg = k at kl ke
    obtain ⟨m5, m6⟩ := m4 a1
    have t0 : T.1 99 (fbs (Fr Dp) + 80 + wsl Sf s0) = nI (gAd G v.2.1 + 1) := (hcw 0 (by omega)).trans (c3 a1)
    obtain ⟨_, g0, hg0⟩ := tit_r tt ati
    have kp : k < gPl G v.2.1 := by omega
    have ety : gty Sf (fρ (Fr Dp)) (Sf.1 68 p) = gTy G v.2.1 k := by
      have := a5 k kp
      rw [tgt_c h69] at this
      injection this with _ this
    have tv := tV_68 cx.1 hp h69
    have ewg : wg g0 = wS Sf (Sf.1 68 p) := by rw [← (hg0 k kp).1, ← ety]; exact wg_gty cx.1 hc6 tv
    have ewo : gWo G v.2.1 k = k * wS Sf (Sf.1 68 p) := by rw [(hg0 k kp).2, ewg]
    have wok := tw k kp
    obtain ⟨cr, ecr, hcr⟩ := (cx.1 p hp.2.1 hp.2.2).2.1
    change Sf.1 67 p = nI cr at ecr
    rw [ecr] at hlv
    rw [ecr, nc (by omega)] at a4
    obtain ⟨i, hi, he⟩ := a4.2.2 (h.alv hcr hlv)
    obtain ⟨l, ⟨q1, q2, q3, q4, q5, q6, q7, _⟩, _⟩ := h.1.at a2 a3 hi he kp
    obtain ⟨d1, d2, d3, d4, d5, d6, d7⟩ := h.1.rd a2 a3 hi he kp
    rw [if_pos aun, ← ety, ← e68] at d2
    rw [ewo] at d1
    rw [← e68] at tv ewo d1
    obtain ⟨wv', vt'⟩ := wv_wS cx.1 hc6 tv d2
    have wl := wv_3 (v := (D v.2.1).1 k)
    refine ex_go (v := (D v.2.1).1 k) (f := fun i => (sI T 105 0 (nI (m + 1))).1 114 (gAd G v.2.1 + k * wS Sf jj.2.2.1 + i)) (st := [0, jj.2.1]) (s0 := s0) cx h rn hn hm hn2 h51 hm2 h6 rowR (by decide) krow (by decide) e1 hI vt' q7 (fun i hi => ?_) ?_ ?_
    · rw [tp_105 (by omega)]
      exact (d1 i hi).2.2
    · rw [x_r8 (o := gOb G v.2.1) (bb := nI v.2.1) (l := l) (k := k) w6' (by omega) (by rw [tp_102 (by omega), tp_102 (by omega), m0, m1]; exact ke.symm) (by omega) (by rw [tp_102 (by omega), m3]; congr 1; omega) q1 (by rw [tp_102 (by omega)]; exact m5) (by rw [tp_102 (by omega)]; exact m6) (by rw [tp_102 (by omega)]; exact q2) (by rw [tp_102 (by omega)]; exact q3) (by omega) (by rw [tp_102 (by omega)]; show chn ((sI M 102 0 (nI (n + 1))).1 149) _ l; rw [sI_ne (by omega)]; exact q5) (by omega) (by rw [tp_102 (by omega)]; exact q6) (by omega) (by omega), tp_102 (by omega), tp_102 (by omega), tp_102 (by omega), tp_102 (by omega)]
    · rw [dC_210 (by decide) (by decide) (by decide) (by decide), ← e68, c_ixp (j := k) (m := v.2.2 - 1) (a := gAd G v.2.1) w7' (by omega) (by rw [tp_105 (by omega), tp_105 (by omega), t1, t3]; exact ke.symm) (by rw [tp_105 (by omega)]; exact t2) (by omega) (by omega) (by rw [tp_105 (by omega)]; exact t0) (by omega), if_pos rfl, c_fetch (P := P) (W := W) (t := fbs (Fr Dp) + 80 + wsl Sf s0) (by rw [sI_v]) (by omega) (by omega) (by omega) (d5.eq (by rw [sI_ne (by omega), sI_ne (by omega)]) (by rw [sI_ne (by omega), sI_ne (by omega)])) (fun i hi => ⟨?_, ?_⟩) (by omega), bis, stW_100, wv', sI_ne (g' := 114) (g := 100) (by omega)]
      · exact (d1 i (by omega)).1.eq (by rw [sI_ne (by omega), sI_ne (by omega)])
      · rw [sI_ne (g' := 115) (g := 100) (by omega), tp_105 (by omega)]
        exact (d1 i (by omega)).2.1
theorem xe_9 (cx : CxP M0 T0 Sf) (h : Sim M0 T0 Sf G D nb mk rg na ng P W Fr Dp M T) (rn : RnO M T) (hn : fn (Fr Dp) = n) (hm : fm (Fr Dp) = m) (hn2 : n < 12000) (h51 : T0.1 51 0 = nI n1) (hm2 : m < n1) (h6 : n1 ≤ 6032) (hR : rOk M0 jj n) (hK : KrO (RgE (eN Sf (fit (Fr Dp))) (fS (Fr Dp))) (slF (fS (Fr Dp))) Sf T0 jj m) (hty : tyJ Sf (fS (Fr Dp)) jj (fst' (Fr Dp)) st') (hI : IvP Sf (fit (Fr Dp)) (fS (Fr Dp)) st' (fhs (Fr Dp))) (hnf : 16385 ≤ nf) (hd : 20 ≤ d) (hd' : 20 ≤ d') (hj : jj.1 = 9) : ExQ nf d d' M0 T0 Sf P W mk rg na ng Fr Dp M T st' (n + 1) (m + 1) := by
  rw [tyJ_9 hj] at hty
  obtain ⟨s0, p, e1, e2, ⟨hp, hk, h69, hlv⟩, e68, nw⟩ := hty
  subst e2
  obtain ⟨w1, w2, w3, w4, w5, w6, w7, w8, w9⟩ := h.rw (n := n) (m := m)
  obtain ⟨b1, b2, b3, b4, b5⟩ := h.bd
  obtain ⟨fr, iv⟩ := h.fr
  have hc6 : cn Sf ≤ 6000 := by have := cx.2.1; omega
  have rowR := rO_n hR (by rw [hj]; decide)
  unfold rB at rowR
  rw [hj, if_neg (by decide), if_neg (by decide), if_neg (by decide), if_neg (by decide), if_neg (by decide), if_neg (by decide)] at rowR
  unfold KrO at hK
  rw [hj, if_neg (by decide), if_neg (by decide), if_neg (by decide), if_neg (by decide), if_neg (by decide), if_neg (by decide), if_neg (by decide), if_neg (by decide), if_pos (by decide)] at hK
  obtain ⟨cc, kw, krow⟩ := hK
  have tv0 := tV_68 cx.1 hp h69
  rw [e68] at kw
  rw [wd_v hc6 tv0 kw] at krow
  obtain ⟨vi, hvi, hrvi, hcwi⟩ := h.top e1
  obtain ⟨v, hv, hrv, hcw⟩ := h.top2 e1
  have ws := wS_r hc6 hp hk
  have TI := h.2.2.2.2.2.2.2
  have l1 : (fst' (Fr Dp)).length = s0.length + 2 := by rw [e1]; rfl
  have ls : wsl Sf (jj.2.2.1 :: s0) = 3 + wsl Sf s0 := by rw [← ws]; rfl
  have l2 : wsl Sf (fst' (Fr Dp)) = 4 + wsl Sf s0 := by
    rw [e1, show wsl Sf (0 :: jj.2.2.1 :: s0) = wS Sf 0 + wsl Sf (jj.2.2.1 :: s0) from rfl, wS_0, ls]
    omega
  have w6' : (sI M 102 0 (nI (n + 1))).1 109 0 = nI (fph (Fr Dp) + s0.length + 2) := by rw [tp_102 (by omega), w6, l1]; rfl
  have w7' : (sI T 105 0 (nI (m + 1))).1 100 0 = nI (fbs (Fr Dp) + 80 + wsl Sf s0 + 4) := by rw [tp_105 (by omega), w7, l2]; congr 1; omega
  obtain ⟨i1, i2⟩ := hvi.i0
  rw [List.length_cons] at hrvi
  rw [ls] at hcwi
  have m1 : M.1 110 (fph (Fr Dp) + s0.length + 1) = vi.1 := RV_i hrvi i1 i2
  have t3 : T.1 99 (fbs (Fr Dp) + 80 + wsl Sf s0 + 3) = vi.1 := by
    have := hcwi 0 (by rw [wv_0 i2]; omega)
    rw [CW_i i1 i2, show fbs (Fr Dp) + 80 + (3 + wsl Sf s0) + 0 = fbs (Fr Dp) + 80 + wsl Sf s0 + 3 by omega] at this
    exact this
  rw [VTs_r cx.1 hc6 hp hk] at hv
  have v1 : ¬ v.2.2 = 0 := by
    rcases hv with z | z
    · omega
    · have := z.1; omega
  have wv3 : wv v = 3 := if_neg v1
  obtain ⟨m0, m3, m4⟩ := RV_r hrv v1
  obtain ⟨c1, c2, c3⟩ := CW_r (G := G) v1
  have t1 : T.1 99 (fbs (Fr Dp) + 80 + wsl Sf s0 + 1) = v.1 := (hcw 1 (by omega)).trans c1
  have t2 : T.1 99 (fbs (Fr Dp) + 80 + wsl Sf s0 + 2) = nI (v.2.2 - 1) := (hcw 2 (by omega)).trans c2
  by_cases ob : v.1 + vi.1 < 0 ∨ ¬ v.1 + vi.1 < nI (v.2.2 - 1)
  · refine Or.inr (Or.inl (rz_go (d1 := d - 2) (d2 := d' - 1) h hn hm hn2 h51 hm2 h6 rowR (by decide) krow (by decide) 2 (nI (fph (Fr Dp) + s0.length)) (nI (fbs (Fr Dp) + 80 + wsl Sf s0)) (by omega) (by omega) (fun r l M' hM => ?_) (fun r l T' hT => ?_)))
    · exact x_b9 w6' (by omega) (by rw [tp_102 (by omega), tp_102 (by omega), tp_102 (by omega), m0, m1, m3]; exact ob) hM (by omega)
    · rw [dC_210 (by decide) (by decide) (by decide) (by decide), c_ix0 w7' (by omega) (by rw [tp_105 (by omega), tp_105 (by omega), tp_105 (by omega), t1, t2, t3]; exact ob) (by omega), hT, bis]
  · have ob1 : ¬ v.1 + vi.1 < 0 := fun w => ob (Or.inl w)
    have ob2 : v.1 + vi.1 < nI (v.2.2 - 1) := Decidable.byContradiction fun w => ob (Or.inr w)
    have n1v : ¬ v.2.2 = 1 := fun w => by
      rw [w] at ob2
      exact ob1 ob2
    obtain ⟨a1, a2, a3, apl, aun, ati, a4, a5⟩ := hv.resolve_left n1v
    obtain ⟨tt, to, ta, tp, tp6, tw⟩ := TI v.2.1 a2 a3
    have kl := nI_ltn ob1 (by omega) ob2
    have ke := (nI_clx ob1).1
    generalize (v.1 + vi.1).toNatClampNeg = k at kl ke
    obtain ⟨m5, m6⟩ := m4 a1
    have t0 : T.1 99 (fbs (Fr Dp) + 80 + wsl Sf s0) = nI (gAd G v.2.1 + 1) := (hcw 0 (by omega)).trans (c3 a1)
    obtain ⟨_, g0, hg0⟩ := tit_r tt ati
    have kp : k < gPl G v.2.1 := by omega
    have ety : gty Sf (fρ (Fr Dp)) (Sf.1 68 p) = gTy G v.2.1 k := by
      have := a5 k kp
      rw [tgt_c h69] at this
      injection this with _ this
    have tv := tV_68 cx.1 hp h69
    have ewg : wg g0 = wS Sf (Sf.1 68 p) := by rw [← (hg0 k kp).1, ← ety]; exact wg_gty cx.1 hc6 tv
    have ewo : gWo G v.2.1 k = k * wS Sf (Sf.1 68 p) := by rw [(hg0 k kp).2, ewg]
    have wok := tw k kp
    obtain ⟨q, hq, hz⟩ := nw
    obtain ⟨z1, z2, z3, z4, z5⟩ := rwT_g hz
    have cwn : CW G ((nI k, v.2.1, 0) : AV) 0 = nI (gAd G v.2.1 + k * wS Sf (Sf.1 68 p) + 1) := by
      rw [CW_p (v := (nI k, v.2.1, 0)) rfl a2]
      show nI (gAd G v.2.1 + (if gUn G v.2.1 = 0 then gWo G v.2.1 (nI k).toNatClampNeg else 0) + 1) = _
      rw [if_pos aun, nc (by omega), ewo]
    refine ex_go (v := (nI k, v.2.1, 0)) (f := fun _ => nI (gAd G v.2.1 + k * wS Sf (Sf.1 68 p) + 1)) (st := [0, jj.2.2.1]) (s0 := s0) cx h rn hn hm hn2 h51 hm2 h6 rowR (by decide) krow (by decide) e1 hI ?_ (RV_mk (w := 0) (v := (nI k, v.2.1, 0)) rfl a2) (fun i hi => ?_) ?_ ?_
    · rw [VTs_p cx.1 hc6 hq (Or.inl z1)]
      refine Or.inr ⟨rfl, a2, a3, by rw [z2]; exact a4, ?_⟩
      rw [tgt_c (by rw [z4]; show (-1 : Int32) < 0; decide), z3]
      show tgO G v.2.1 (nI k) (0 :: gty Sf (fρ (Fr Dp)) (Sf.1 68 p))
      unfold tgO
      rw [if_neg (by show ¬ (0 : Nat) = 1; decide)]
      exact ⟨k, rfl, kp, aun, by rw [ety]⟩
    · have i0 : i = 0 := by
        have : wv ((nI k, v.2.1, 0) : AV) = 1 := rfl
        omega
      rw [i0, cwn]
    · rw [x_r9 (k := k) (n := v.2.2 - 1) w6' (by omega) (by rw [tp_102 (by omega), tp_102 (by omega), m0, m1]; exact ke.symm) (by omega) (by rw [tp_102 (by omega)]; exact m3) (by omega) (by omega) (by omega), tp_102 (by omega), tp_102 (by omega), m5, m6]
    · rw [dC_210 (by decide) (by decide) (by decide) (by decide), c_ixp (j := k) (m := v.2.2 - 1) (a := gAd G v.2.1) w7' (by omega) (by rw [tp_105 (by omega), tp_105 (by omega), t1, t3]; exact ke.symm) (by rw [tp_105 (by omega)]; exact t2) (by omega) (by omega) (by rw [tp_105 (by omega)]; exact t0) (by omega), if_neg (by decide), if_pos rfl, c_push (t := fbs (Fr Dp) + 80 + wsl Sf s0) (by rw [sI_v]) (by omega) (by omega), bis, ps_100, ps_stW, nI_1]
      rfl
end XE5
