/-! both machines: what is pointed to lives -/
section XE3
variable {M0 T0 Sf S Sh : gSt} {G G' : GH} {D D' : Nat → (Nat → AV) × Nat} {nf d d' nb nb' mk mk' na na' ng ng' e bs ph bt rb tb ie en hb k q u s i j c t h P W Dp n m it n1 : Nat} {rg rg' : Nat → Nat} {ρ : Nat → Nat} {va : Nat → AV} {M M' T T' : gSt} {v : AV} {x a b cc ee op y z w : Int32} {st s0 st' : List Int32} {ov o0 ov' : List AV} {hs : List HD} {F : FRM} {Fr : Nat → FRM} {f : Nat → Int32} {jj : T5} {r1 : Int32} {l1 : Int64} {tg : List Nat}
variable {p : Nat} {ids : Nat → Nat}
/-- a LIVE REGION is there -/
theorem Sim.alv (h : Sim M0 T0 Sf G D nb mk rg na ng P W Fr Dp M T) (hc : c < 12) (hl : ¬ isLv (fS (Fr Dp)) (nI c) = 0) : al rg na (fρ (Fr Dp) c) := by
  obtain ⟨fr, iv⟩ := h.fr
  obtain ⟨⟨r1, r2, r3, r4, r5, r6⟩, q1, q2, q3, q4⟩ := fr.2.2.1
  obtain ⟨mm, g, nn, cd, po, ⟨a1, a2, a3, a4, a5, a6, a7, a8⟩, b1, b2, b3, b4, b5, b6, b7, b8⟩ := iv.2.1
  have en' : arn (fS (Fr Dp)) = nn := by unfold arn; rw [a7, nc (by omega)]
  have hna := h.2.2.2.1.2.2.1
  have hl' : fi ((fS (Fr Dp)).1 75 0) c = true := by
    cases e : fi ((fS (Fr Dp)).1 75 0) c with
    | true => rfl
    | false => exact absurd ((isLv_fi (by omega)).mpr e) hl
  rcases b7 c (by omega) hl' with w | ⟨j, j1, j2⟩
  · by_cases c0 : c = 0
    · subst c0
      rw [r1]
      exact ⟨0, by omega, h.1.1.2.2.2.2.2.2⟩
    · obtain ⟨i, i1, i2, i3, i4⟩ := q3 c (by omega) (by omega) hl
      exact ⟨i, by omega, i4⟩
  · obtain ⟨p1, p2⟩ := b4 j j1
    obtain ⟨_, d1, d2, _⟩ := b2 j j1
    rw [← j2] at p2 d1
    obtain ⟨u1, u2, u3⟩ := q1 (po j) c (by omega) p2 d1 hc
    unfold RgQx at u3
    rw [if_neg hl] at u3
    have lt := lvc_lt (t := arn (fS (Fr Dp))) (by omega) p2 hc hl
    exact ⟨_, by omega, u3.2.1⟩
/-- a place of what lives, the class's words -/
theorem HpI.rd (h : HpI G D nb mk rg na ng P W M T) {b : Nat} (b1 : 1 ≤ b) (b2 : b ≤ nb) (hi : i < na) (he : rg i = gHm G b) (hp : p < gPl G b) : (∀ w, w < wv ((D b).1 p) → Own T P W (gAd G b + gWo G b p + w) ∧ ¬ T.1 115 (gAd G b + gWo G b p + w) = 0 ∧ T.1 114 (gAd G b + gWo G b p + w) = CW G ((D b).1 p) w) ∧ VT G nb rg na ng ((D b).1 p) (gTy G b (if gUn G b = 0 then p else (D b).2)) ∧ (∀ j, j < gSz G b → Own T P W (gAd G b + j)) ∧ (¬ gUn G b = 0 → T.1 114 (gAd G b) = nI ((D b).2 + 1) ∧ ¬ T.1 115 (gAd G b) = 0 ∧ (D b).2 < 8 ∧ gPl G b = 1 ∧ gWo G b 0 = 1 ∧ ∀ f, f < 8 → 1 + wg (gTy G b f) ≤ gSz G b) ∧ Pgs T P W ∧ (gUn G b = 0 → gWo G b p + wg (gTy G b p) ≤ gSz G b) ∧ gSz G b ≤ 64 := by
  obtain ⟨⟨_, _, _, hna, _⟩, ⟨_, _, p3, _⟩, _, _, h7, _⟩ := h
  obtain ⟨⟨r1, r2, r3, r4, r5, r6⟩, q1, q2, q3, q4, q5, q6⟩ := h7 b i b1 b2 hi he
  have own : ∀ j, j < gSz G b → Own T P W (gAd G b + j) := fun j hj => ⟨by omega, by rw [r3 j hj]; exact fun w => nI_neg1 (by omega) w.symm⟩
  refine ⟨fun w hw => ?_, q6 p hp, own, fun u => ?_, p3, fun u => (q4 u).1 p hp, q3⟩
  · have inW : gWo G b p + w < gSz G b := by
      have hvq := (q6 p hp).wi
      rw [hvq] at hw
      by_cases u : gUn G b = 0
      · rw [if_pos u] at hw
        have := (q4 u).1 p hp
        omega
      · rw [if_neg u] at hw
        obtain ⟨u1, u2, u3, u4⟩ := q5 u
        have := u4 _ u3
        have : p = 0 := by omega
        subst this
        omega
    refine ⟨?_, (r5 p hp w hw).2, (r5 p hp w hw).1⟩
    rw [Nat.add_assoc]
    exact own _ inW
  · obtain ⟨u1, u2, u3, u4⟩ := q5 u
    exact ⟨(r4 u).1, (r4 u).2, u3, u1, u2, u4⟩
theorem chρ_0 (h : ρ 0 = 0) : chρ ρ w 0 = 0 := by
  unfold chρ chP
  rw [if_pos (show nI 0 < 1 by decide)]
  exact h
theorem chρ_s (hk : k < 3) : chρ ρ w (k + 1) = ρ (ptOf w (nI k)).toNatClampNeg := by
  unfold chρ chP
  rw [if_neg (fun z => by have := (nI_ltI (a := k + 1) (b := 1) (by omega) (by omega)).mp z; omega), if_neg (fun z => by have := (nI_ltI (a := 3) (b := k + 1) (by omega) (by omega)).mp z; omega), nI_sub]
/-- what an object with a title is -/
theorem tit_of {b : Nat} (hT : titO Sf T0 G b) (hti : gTi G b = 1 :: t :: (List.range (eN Sf t)).map (fun k => ρ (ptOf w (nI k)).toNatClampNeg)) (h0 : ρ 0 = 0) : ∃ c m, t < inn Sf ∧ ItQ Sf T0 t c m ∧ (if Sf.1 12 t = 1 then ¬ gUn G b = 0 ∧ gPl G b = 1 ∧ gWo G b 0 = 1 ∧ (∀ f, f < m → gTy G b f = gty Sf (chρ ρ w) (Sf.1 24 (c + f))) else Sf.1 12 t = 0 ∧ gUn G b = 0 ∧ gPl G b = m ∧ ∀ f, f < m → gTy G b f = gty Sf (chρ ρ w) (Sf.1 24 (c + f)) ∧ gWo G b f = ofs Sf c f) := by
  rcases hT with ⟨z, _⟩ | ⟨t', c, m, ids, t1, t2, t3, t4⟩
  · rw [hti] at z
    exact absurd z (by simp)
  · rw [hti] at t3
    injection t3 with _ t3
    injection t3 with et t3
    subst et
    have ids_e : ∀ k, k < eN Sf t → ids k = ρ (ptOf w (nI k)).toNatClampNeg := fun k hk => by
      have := congrArg (fun l => l.getD k 0) t3
      simp only [List.getD_eq_getElem?_getD, List.getElem?_map, List.getElem?_range hk] at this
      exact this.symm
    have eq : ∀ x, TyOf Sf (fun c => c ≤ eN Sf t) x → gty Sf (idρ ids) x = gty Sf (chρ ρ w) x := fun x hx => hx _ _ (fun c hc => by
      cases c with
      | zero => rw [chρ_0 h0]; rfl
      | succ k =>
        have := t2.2.2.2.2.2.2.2.2.2.2
        rw [chρ_s (by omega), ← ids_e k (by omega)]
        rfl)
    have tyf := t2.2.2.2.2.2.2.2.1
    refine ⟨c, m, t1, t2, ?_⟩
    by_cases c1 : Sf.1 12 t = 1
    · rw [if_pos c1] at t4 ⊢
      exact ⟨t4.1, t4.2.1, t4.2.2.1, fun f hf => by rw [t4.2.2.2 f hf, eq _ (tyf f hf).2]⟩
    · rw [if_neg c1] at t4 ⊢
      exact ⟨t4.1, t4.2.1, t4.2.2.1, fun f hf => ⟨by rw [(t4.2.2.2 f hf).1, eq _ (tyf f hf).2], (t4.2.2.2 f hf).2⟩⟩
theorem tgt_t {p : Nat} (h69 : Sf.1 69 p = nI t) (ht : t < 100000) : tgt Sf ρ p = 1 :: t :: (List.range (eN Sf t)).map (fun k => ρ (ptOf (Sf.1 70 p) (nI k)).toNatClampNeg) := by
  unfold tgt
  rw [h69, if_neg (nI_ge0 (by omega)), nc ht]
  rfl
theorem tgt_c {p : Nat} (h69 : Sf.1 69 p < 0) : tgt Sf ρ p = 0 :: gty Sf ρ (Sf.1 68 p) := by
  unfold tgt
  rw [if_pos h69]
theorem tgO_t (h : tgO G c x (1 :: tg)) : x = 0 ∧ gTi G c = 1 :: tg := by
  unfold tgO at h
  rw [if_pos (show (1 :: tg).headD 0 = 1 from rfl)] at h
  exact ⟨h.1, h.2.symm⟩
theorem tgO_c (h : tgO G c x (0 :: tg)) : ∃ p, x = nI p ∧ p < gPl G c ∧ gUn G c = 0 ∧ tg = gTy G c p := by
  unfold tgO at h
  have e : (0 :: tg).headD 0 = 0 := rfl
  rw [e, if_neg (by decide)] at h
  obtain ⟨p, h1, h2, h3, h4⟩ := h
  injection h4 with _ h4
  exact ⟨p, h1, h2, h3, h4⟩
theorem ofs_0 : ofs Sf c 0 = 0 := rfl
theorem ItQ.un {c m c' m' : Nat} (h : ItQ Sf T0 t c m) (h2 : fldP Sf t k c') : c' = c ∧ k < m := by
  obtain ⟨a1, a2, a3, a4, _⟩ := h
  obtain ⟨m2, b1, b2, b3, b4, b5⟩ := h2
  have e1 : c' = c := nI_inj (by omega) (by omega) (by rw [← b1, a1])
  have e2 : m2 = m := nI_inj (by omega) (by omega) (by rw [← b2, a2])
  exact ⟨e1, by omega⟩
theorem xe_7 (cx : CxP M0 T0 Sf) (h : Sim M0 T0 Sf G D nb mk rg na ng P W Fr Dp M T) (rn : RnO M T) (hn : fn (Fr Dp) = n) (hm : fm (Fr Dp) = m) (hn2 : n < 12000) (h51 : T0.1 51 0 = nI n1) (hm2 : m < n1) (h6 : n1 ≤ 6032) (hR : rOk M0 jj n) (hK : KrO (RgE (eN Sf (fit (Fr Dp))) (fS (Fr Dp))) (slF (fS (Fr Dp))) Sf T0 jj m) (hty : tyJ Sf (fS (Fr Dp)) jj (fst' (Fr Dp)) st') (hI : IvP Sf (fit (Fr Dp)) (fS (Fr Dp)) st' (fhs (Fr Dp))) (hnf : 16385 ≤ nf) (hd : 20 ≤ d) (hd' : 20 ≤ d') (hj : jj.1 = 7) : ExQ nf d d' M0 T0 Sf P W mk rg na ng Fr Dp M T st' (n + 1) (m + 1) := by
  rw [tyJ_7 hj] at hty
  obtain ⟨s0, p, t, f, c, e1, e2, ⟨hp, hk, h69, ht, hlv⟩, h12, ef, hfl, tve, gte, nw⟩ := hty
  subst e2
  obtain ⟨w1, w2, w3, w4, w5, w6, w7, w8, w9⟩ := h.rw (n := n) (m := m)
  obtain ⟨b1, b2, b3, b4, b5⟩ := h.bd
  obtain ⟨fr, iv⟩ := h.fr
  have hc6 : cn Sf ≤ 6000 := by have := cx.2.1; omega
  have rowR := rO_n hR (by rw [hj]; decide)
  unfold rB at rowR
  rw [hj, if_neg (by decide), if_neg (by decide), if_neg (by decide), if_neg (by decide), if_neg (by decide), if_neg (by decide)] at rowR
  unfold KrO at hK
  rw [hj, if_neg (by decide), if_neg (by decide), if_neg (by decide), if_neg (by decide), if_neg (by decide), if_neg (by decide), if_pos (by decide)] at hK
  obtain ⟨v, hv, hrv, hcw⟩ := h.top e1
  have ws := wS_p hc6 hp hk
  have l1 : (fst' (Fr Dp)).length = s0.length + 1 := by rw [e1]; rfl
  have l2 : wsl Sf (fst' (Fr Dp)) = 1 + wsl Sf s0 := by rw [e1, ← ws]; rfl
  have w6' : (sI M 102 0 (nI (n + 1))).1 109 0 = nI (fph (Fr Dp) + s0.length + 1) := by rw [tp_102 (by omega), w6, l1]; rfl
  have w7' : (sI T 105 0 (nI (m + 1))).1 100 0 = nI (fbs (Fr Dp) + 80 + wsl Sf s0 + 1) := by rw [tp_105 (by omega), w7, l2]; congr 1; omega
  have TI := h.2.2.2.2.2.2.2
  have r0 : fρ (Fr Dp) 0 = 0 := fr.2.2.1.1.1
  rw [VTs_p cx.1 hc6 hp hk] at hv
  obtain ⟨t', c', ⟨g, y, _, h0, h69', h24⟩, kw, krow⟩ := hK
  have i24 := cx.2.2.2.2.1
  have et : t' = t := nI_inj (by omega) (by omega) (by rw [hp.cl hc6] at h69'; rw [← h69', h69])
  subst et
  rw [ef, nc (by have := hfl; obtain ⟨m2, _, _, q3, _, q5⟩ := hfl; omega)] at krow
  rw [ef] at rowR
  rcases hv with ⟨_, e⟩ | ⟨a1, a2, a3, a4, a5⟩
  · subst e
    refine Or.inr (Or.inl (rz_go (d1 := d - 2) (d2 := d' - 1) h hn hm hn2 h51 hm2 h6 rowR (by decide) krow (by decide) 1 (nI (fph (Fr Dp) + s0.length)) (nI (fbs (Fr Dp) + 80 + wsl Sf s0)) (by omega) (by omega) (fun r l M' hM => ?_) (fun r l T' hT => ?_)))
    · exact x_n7 w6' (by omega) (by rw [tp_102 (by omega)]; exact RV_nul hrv) hM (by omega)
    · rw [dC_207 (by decide) (by decide) (by decide), c_pt0 w7' (by omega) (by rw [tp_105 (by omega)]; exact (hcw 0 (by decide)).trans CW_nul) (by omega), hT, bis]
  · obtain ⟨r1, r2, r3⟩ := RV_p hrv a1 a2
    have lt := gPt_lt TI a2 a3 a5
    obtain ⟨tt, to, ta, tp, tp6, tw⟩ := TI v.2.1 a2 a3
    rw [tgt_t h69 (by omega)] at a5
    obtain ⟨x0, hti⟩ := tgO_t a5
    obtain ⟨c2, m2, _, iq, sh⟩ := tit_of tt hti r0
    obtain ⟨ec, fm⟩ := iq.un (c' := c) (m' := 0) hfl
    subst ec
    rw [if_neg h12] at sh
    obtain ⟨s12, un, pl, fs⟩ := sh
    have c0 : T.1 99 (fbs (Fr Dp) + 80 + wsl Sf s0) = nI (gPt G v + 1) := (hcw 0 (by rw [wv_0 a1]; omega)).trans (CW_pt a1 a2)
    have gp : gPt G v = gAd G v.2.1 := by
      unfold gPt
      rw [if_pos un, x0, show (0 : Int32).toNatClampNeg = 0 from rfl, (fs 0 (by omega)).2, ofs_0]
      rfl
    have w45 := iq.2.2.2.2.2.1 s12 f fm
    rw [w45] at krow
    obtain ⟨q, hq, hz⟩ := nw
    obtain ⟨z1, z2, z3, z4, z5⟩ := rwT_g hz
    have f8 : f < 8 := by have := iq.2.2.1; omega
    have cwn : CW G ((nI f, v.2.1, 0) : AV) 0 = nI (gAd G v.2.1 + ofs Sf c f + 1) := by
      rw [CW_p (v := (nI f, v.2.1, 0)) rfl a2]
      show nI (gAd G v.2.1 + (if gUn G v.2.1 = 0 then gWo G v.2.1 (nI f).toNatClampNeg else 0) + 1) = _
      rw [if_pos un, nc (by omega), (fs f fm).2]
    refine ex_go (v := (nI f, v.2.1, 0)) (f := fun _ => nI (gAd G v.2.1 + ofs Sf c f + 1)) (st := [jj.2.2.1]) (s0 := s0) cx h rn hn hm hn2 h51 hm2 h6 rowR (by decide) krow (by decide) e1 hI ?_ (RV_mk (w := 0) (v := (nI f, v.2.1, 0)) rfl a2) (fun i hi => ?_) ?_ ?_
    · rw [VTs_p cx.1 hc6 hq (Or.inl z1)]
      refine Or.inr ⟨rfl, a2, a3, by rw [z2]; exact a4, ?_⟩
      rw [tgt_c (by rw [z4]; show (-1 : Int32) < 0; decide), z3]
      show tgO G v.2.1 (nI f) _
      unfold tgO
      rw [if_neg (by show ¬ (0 : Nat) = 1; decide)]
      exact ⟨f, rfl, by omega, un, by rw [(fs f fm).1]; show _ = _; rw [gte]⟩
    · have i0 : i = 0 := by
        have : wv ((nI f, v.2.1, 0) : AV) = 1 := rfl
        omega
      rw [i0, cwn]
    · rw [x_r7 w6' (by omega) (by rw [tp_102 (by omega), r2]; exact fun w => nI_neg1 (by omega) w.symm) (by omega), tp_102 (by omega), tp_102 (by omega), r2, r3]
    · rw [dC_207 (by decide) (by decide) (by decide), c_ad24 w7' (by omega) (by rw [tp_105 (by omega), c0]; exact nz1 (by omega)) (by omega), tp_105 (by omega), c0, gp, show nI (gAd G v.2.1 + 1) + nI (ofs Sf c f) = nI (gAd G v.2.1 + ofs Sf c f + 1) from by rw [show nI (gAd G v.2.1 + 1) + nI (ofs Sf c f) = nI (gAd G v.2.1 + 1 + ofs Sf c f) from (Int32.ofNat_add _ _).symm]; congr 1; omega, ps_stW]
      rfl
end XE3
