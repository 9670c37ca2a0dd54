/-! both machines: operators -/
section XE6
variable {M0 T0 Sf S Sh : gSt} {G G' : GH} {D D' : Nat → (Nat → AV) × Nat} {nf d d' nb nb' mk mk' na na' ng ng' e bs ph bt rb tb ie en hb k q u s i j c t h P W Dp n m it n1 : Nat} {rg rg' : Nat → Nat} {ρ : Nat → Nat} {va : Nat → AV} {M M' T T' : gSt} {v : AV} {x a b cc ee op y z w : Int32} {st s0 st' : List Int32} {ov o0 ov' : List AV} {hs : List HD} {F : FRM} {Fr : Nat → FRM} {f : Nat → Int32} {jj : T5} {r1 : Int32} {l1 : Int64} {tg : List Nat}
variable {p l r : Nat} {sg : Int32}
theorem sI_idx (h : M.1 k q = x) : sI M k q x = M := by
  refine st_ext (fun a b => ?_) rfl
  rw [rdI]
  by_cases c : a = k ∧ b = q
  · rw [if_pos c, c.1, c.2, h]
  · rw [if_neg c]
theorem rp_110 : sI (sI M 109 0 (nI (h + 1))) 110 h x = rpT M h x (M.1 111 h) (M.1 112 h) (M.1 113 h) := by
  unfold rpT
  rw [sI_idx (M := sI M 110 h x) (k := 111) (q := h) (by rw [sI_ne (by omega)]), sI_idx (M := sI M 110 h x) (k := 112) (q := h) (by rw [sI_ne (by omega)]), sI_idx (M := sI M 110 h x) (k := 113) (q := h) (by rw [sI_ne (by omega)]), sI_cc (g := 109) (h := 110) (by omega)]
theorem rp_111 : sI (sI (sI M 109 0 (nI (h + 1))) 110 h x) 111 h y = rpT M h x y (M.1 112 h) (M.1 113 h) := by
  unfold rpT
  rw [sI_idx (M := sI (sI M 110 h x) 111 h y) (k := 112) (q := h) (by rw [sI_ne (by omega), sI_ne (by omega)]), sI_idx (M := sI (sI M 110 h x) 111 h y) (k := 113) (q := h) (by rw [sI_ne (by omega), sI_ne (by omega)]), sI_cc (g := 109) (h := 110) (by omega), sI_cc (g := 109) (h := 111) (by omega)]
theorem mv_stW : sI (sI T 100 0 (nI (t + 3))) 99 (t + 1) x = stW T t (fun i => if i = 1 then x else T.1 99 (t + i)) 3 := by
  refine st_ext (fun k j => ?_) rfl
  rw [stW_r, rdI]
  by_cases c1 : k = 99
  · rw [if_pos c1]
    by_cases c2 : j = t + 1
    · rw [if_pos ⟨c1, c2⟩, if_pos (by omega), if_pos (by omega)]
    · rw [if_neg (fun w => c2 w.2), c1, sI_ne (by omega)]
      by_cases c3 : t ≤ j ∧ j < t + 3
      · rw [if_pos c3, if_neg (by omega), show t + (j - t) = j by omega]
      · rw [if_neg c3]
  · rw [if_neg (fun w => c1 w.1), if_neg c1, rdI]
theorem nu_rk : nuV (opK sg) x y = rkV sg x y := by
  unfold nuV opK rkV
  by_cases c1 : sg = 60
  · subst c1
    rfl
  rw [if_neg c1]
  by_cases c2 : sg = 43
  · rw [if_pos c2, if_pos c2, if_pos rfl]
  rw [if_neg c2, if_neg c2]
  by_cases c3 : sg = 45
  · rw [if_pos c3, if_pos c3, if_neg (by decide), if_pos rfl]
  rw [if_neg c3, if_neg c3]
  by_cases c4 : sg = 42
  · rw [if_pos c4, if_pos c4, if_neg (by decide), if_neg (by decide), if_pos rfl]
  rw [if_neg c4, if_neg c4]
  by_cases c5 : sg = 47
  · rw [if_pos c5, if_pos c5, if_neg (by decide), if_neg (by decide), if_neg (by decide), if_pos rfl]
  rw [if_neg c5, if_neg c5]
  by_cases c6 : sg = 37
  · rw [if_pos c6, if_pos c6, if_neg (by decide), if_neg (by decide), if_neg (by decide), if_neg (by decide), if_pos rfl]
  rw [if_neg c6, if_neg c6, if_neg (by decide), if_neg (by decide), if_neg (by decide), if_neg (by decide), if_neg (by decide), if_pos rfl, if_neg c1]
theorem opK_c : (opK sg = 10 ∨ opK sg = 11 ∨ opK sg = 12 ∨ opK sg = 15 ∨ opK sg = 16) ∨ ((opK sg = 13 ∨ opK sg = 14) ∧ (sg = 47 ∨ sg = 37)) := by
  unfold opK
  by_cases c1 : sg = 60
  · rw [if_pos c1]; exact Or.inl (by decide)
  rw [if_neg c1]
  by_cases c2 : sg = 43
  · rw [if_pos c2]; exact Or.inl (by decide)
  rw [if_neg c2]
  by_cases c3 : sg = 45
  · rw [if_pos c3]; exact Or.inl (by decide)
  rw [if_neg c3]
  by_cases c4 : sg = 42
  · rw [if_pos c4]; exact Or.inl (by decide)
  rw [if_neg c4]
  by_cases c5 : sg = 47
  · rw [if_pos c5]; exact Or.inr ⟨by decide, Or.inl c5⟩
  rw [if_neg c5]
  by_cases c6 : sg = 37
  · rw [if_pos c6]; exact Or.inr ⟨by decide, Or.inr c6⟩
  rw [if_neg c6]
  exact Or.inl (by decide)
theorem opK_b : (9 : Int32) < opK sg ∧ ¬ (16 : Int32) < opK sg ∧ ¬ opK sg = 1 := by
  rcases opK_c (sg := sg) with (e | e | e | e | e) | ⟨e | e, _⟩ <;> rw [e] <;> decide
theorem opK_47 (h : sg = 47 ∨ sg = 37) : opK sg = 13 ∨ opK sg = 14 := by
  rcases h with e | e <;> subst e
  · exact Or.inl rfl
  · exact Or.inr rfl
/-- one place has one word: places of what lives -/
theorem HpI.inj (h : HpI G D nb mk rg na ng P W M T) {b b' q q' : Nat} (b1 : 1 ≤ b) (b2 : b ≤ nb) (c1 : 1 ≤ b') (c2 : b' ≤ nb) (hb : al rg na (gHm G b)) (hc : al rg na (gHm G b')) (hq : gUn G b = 0 → q < gPl G b) (hq' : gUn G b' = 0 → q' < gPl G b') (e : gAd G b + (if gUn G b = 0 then gWo G b q else 0) = gAd G b' + (if gUn G b' = 0 then gWo G b' q' else 0)) : b = b' ∧ (gUn G b = 0 → q = q') := by
  obtain ⟨i, hi, he⟩ := hb
  obtain ⟨i', hi', he'⟩ := hc
  obtain ⟨_, _, _, _, h7, h8⟩ := h
  obtain ⟨⟨r1, _⟩, s1, s2, s3, s4, s5, s6⟩ := h7 b i b1 b2 hi he
  obtain ⟨⟨r1', _⟩, s1', s2', s3', s4', s5', s6'⟩ := h7 b' i' c1 c2 hi' he'
  have wg1 : ∀ g, 1 ≤ wg g := fun g => by unfold wg; split <;> omega
  have in1 : (if gUn G b = 0 then gWo G b q else 0) < gSz G b := by
    by_cases u : gUn G b = 0
    · rw [if_pos u]
      have := (s4 u).1 q (hq u)
      have := wg1 (gTy G b q)
      omega
    · rw [if_neg u]; omega
  have in2 : (if gUn G b' = 0 then gWo G b' q' else 0) < gSz G b' := by
    by_cases u : gUn G b' = 0
    · rw [if_pos u]
      have := (s4' u).1 q' (hq' u)
      have := wg1 (gTy G b' q')
      omega
    · rw [if_neg u]; omega
  by_cases eb : b = b'
  · subst eb
    refine ⟨rfl, fun u => ?_⟩
    rw [if_pos u, if_pos u] at e
    rcases Nat.lt_trichotomy q q' with w | w | w
    · have := (s4 u).2 q q' w (hq' u)
      have := wg1 (gTy G b q)
      omega
    · exact w
    · have := (s4 u).2 q' q w (hq u)
      have := wg1 (gTy G b q')
      omega
  · have := h8 b b' b1 b2 c1 c2 eb ⟨i, hi, he⟩ ⟨i', hi', he'⟩
    omega
theorem isRo_0 : isRo Sf 0 = 0 := by unfold isRo; rw [if_pos (show (0 : Int32) ≤ 0 by decide)]
theorem xe_19 (cx : CxP M0 T0 Sf) (h : Sim M0 T0 Sf G D nb mk rg na ng P W Fr Dp M T) (rn : RnO M T) (hn : fn (Fr Dp) = n) (hm : fm (Fr Dp) = m) (hn2 : n < 12000) (h51 : T0.1 51 0 = nI n1) (hm2 : m < n1) (h6 : n1 ≤ 6032) (hR : rOk M0 jj n) (hK : KrO (RgE (eN Sf (fit (Fr Dp))) (fS (Fr Dp))) (slF (fS (Fr Dp))) Sf T0 jj m) (hty : tyJ Sf (fS (Fr Dp)) jj (fst' (Fr Dp)) st') (hI : IvP Sf (fit (Fr Dp)) (fS (Fr Dp)) st' (fhs (Fr Dp))) (hnf : 16385 ≤ nf) (hd : 20 ≤ d) (hd' : 20 ≤ d') (hj : jj.1 = 19) : ExQ nf d d' M0 T0 Sf P W mk rg na ng Fr Dp M T st' (n + 1) (m + 1) := by
  rw [tyJ_19 hj] at hty
  obtain ⟨s0, e1, e2, hcase⟩ := hty
  subst e2
  obtain ⟨w1, w2, w3, w4, w5, w6, w7, w8, w9⟩ := h.rw (n := n) (m := m)
  obtain ⟨b1, b2, b3, b4, b5⟩ := h.bd
  obtain ⟨fr, iv⟩ := h.fr
  have hc6 : cn Sf ≤ 6000 := by have := cx.2.1; omega
  have rowR := rO_n hR (by rw [hj]; decide)
  unfold rB at rowR
  rw [hj, if_neg (by decide), if_neg (by decide), if_neg (by decide), if_neg (by decide), if_neg (by decide), if_pos (by decide)] at rowR
  unfold KrO at hK
  rw [hj, if_neg (by decide), if_neg (by decide), if_neg (by decide), if_neg (by decide), if_neg (by decide), if_neg (by decide), if_neg (by decide), if_neg (by decide), if_neg (by decide), if_neg (by decide), if_neg (by decide), if_neg (by decide), if_neg (by decide), if_neg (by decide), if_neg (by decide), if_neg (by decide), if_neg (by decide)] at hK
  obtain ⟨_, g, yy, hyy, krow⟩ := hK
  have ro := hyy.ro
  have roM : isRo M0 jj.2.2.2.2 = isRo Sf jj.2.2.2.2 := by unfold isRo; rw [cx.2.2.1 66 (by omega)]
  rw [roM] at rowR
  obtain ⟨v2, hv2, hrv2, hcw2⟩ := h.top e1
  obtain ⟨v1, hv1, hrv1, hcw1⟩ := h.top2 e1
  have l1 : (fst' (Fr Dp)).length = s0.length + 2 := by rw [e1]; rfl
  rw [List.length_cons] at hrv2
  have w6' : (sI M 102 0 (nI (n + 1))).1 109 0 = nI (fph (Fr Dp) + s0.length + 2) := by rw [tp_102 (by omega), w6, l1]; rfl
  rcases hcase with ⟨er, ez, p, hp, hk⟩ | ⟨esg, ez, hl, hr, hlr⟩ | ⟨ez, el, er⟩
  · -- a ROW moved on
    rw [er] at ro rowR hI ⊢
    have r1 : ¬ isRo Sf jj.2.2.1 = 0 := by
      unfold isRo
      rw [if_neg (hp.np hc6), hp.cl hc6, if_pos hk]
      decide
    rw [if_neg r1] at rowR
    rw [if_pos (Decidable.byContradiction fun w => r1 (ro.mpr w))] at krow
    rw [ez] at hv2 e1
    obtain ⟨i1, i2⟩ := hv2.i0
    have ws := wS_r hc6 hp hk
    have ls : wsl Sf (jj.2.2.1 :: s0) = 3 + wsl Sf s0 := by rw [← ws]; rfl
    have l2 : wsl Sf (fst' (Fr Dp)) = 4 + wsl Sf s0 := by
      rw [e1, show wsl Sf (0 :: jj.2.2.1 :: s0) = wS Sf 0 + wsl Sf (jj.2.2.1 :: s0) from rfl, wS_0, ls]
      omega
    have w7' : (sI T 105 0 (nI (m + 1))).1 100 0 = nI (fbs (Fr Dp) + 80 + wsl Sf s0 + 4) := by rw [tp_105 (by omega), w7, l2]; congr 1; omega
    rw [ls] at hcw2
    have m1 : M.1 110 (fph (Fr Dp) + s0.length + 1) = v2.1 := RV_i hrv2 i1 i2
    have t3 : T.1 99 (fbs (Fr Dp) + 80 + wsl Sf s0 + 3) = v2.1 := by
      have := hcw2 0 (by rw [wv_0 i2]; omega)
      rw [CW_i i1 i2, show fbs (Fr Dp) + 80 + (3 + wsl Sf s0) + 0 = fbs (Fr Dp) + 80 + wsl Sf s0 + 3 by omega] at this
      exact this
    have hv1' := hv1
    rw [VTs_r cx.1 hc6 hp hk] at hv1'
    have v0 : ¬ v1.2.2 = 0 := by
      rcases hv1' with z | z
      · omega
      · have := z.1; omega
    obtain ⟨m0, m3, m4⟩ := RV_r hrv1 v0
    have wv3 : wv v1 = 3 := if_neg v0
    have wv3' : wv ((v1.1 + v2.1, v1.2.1, v1.2.2) : AV) = 3 := if_neg v0
    obtain ⟨c1, c2, c3⟩ := CW_r (G := G) v0
    have t1 : T.1 99 (fbs (Fr Dp) + 80 + wsl Sf s0 + 1) = v1.1 := (hcw1 1 (by omega)).trans c1
    refine ex_go (v := (v1.1 + v2.1, v1.2.1, v1.2.2)) (p1 := v1.1 + v2.1) (p2 := M.1 111 (fph (Fr Dp) + s0.length)) (p3 := M.1 112 (fph (Fr Dp) + s0.length)) (p4 := M.1 113 (fph (Fr Dp) + s0.length)) (f := fun i => if i = 1 then v1.1 + v2.1 else T.1 99 (fbs (Fr Dp) + 80 + wsl Sf s0 + i)) (st := [0, jj.2.2.1]) (s0 := s0) cx h rn hn hm hn2 h51 hm2 h6 rowR (by decide) krow (by decide) e1 hI ?_ ?_ (fun i hi => ?_) ?_ ?_
    · rw [VTs_r cx.1 hc6 hp hk]
      exact hv1'
    · unfold RV at hrv1 ⊢
      rw [if_neg v0] at hrv1
      rw [if_neg (show ¬ (v1.1 + v2.1, v1.2.1, v1.2.2).2.2 = 0 from v0)]
      exact ⟨rfl, hrv1.2⟩
    · rw [wv3'] at hi
      by_cases z : i = 1
      · rw [if_pos z, z, (CW_r (v := (v1.1 + v2.1, v1.2.1, v1.2.2)) v0).1]
      · rw [if_neg z, hcw1 i (by omega)]
        unfold CW
        rw [if_neg v0, if_neg (show ¬ (v1.1 + v2.1, v1.2.1, v1.2.2).2.2 = 0 from v0), if_neg z, if_neg z]
    · rw [x_r20 w6' (by omega) (by omega), rp_110, tp_102 (by omega), tp_102 (by omega), tp_102 (by omega), tp_102 (by omega), tp_102 (by omega), m0, m1]
    · rw [dC_203 (by decide), c_move w7' (by omega) (by omega), mv_stW, tp_105 (by omega), tp_105 (by omega), t1, t3, wv3']
      have ef : (fun i => if i = 1 then v1.1 + v2.1 else (sI T 105 0 (nI (m + 1))).1 99 (fbs (Fr Dp) + 80 + wsl Sf s0 + i)) = (fun i => if i = 1 then v1.1 + v2.1 else T.1 99 (fbs (Fr Dp) + 80 + wsl Sf s0 + i)) := by
        funext i
        rw [tp_105 (by omega)]
      rw [ef]
  · -- pointers compared
    rw [ez] at ro rowR hI ⊢
    rw [if_pos isRo_0] at rowR
    rw [if_neg (ro.mp isRo_0)] at krow
    have ln0 : ¬ jj.2.2.1 = 0 := by
      rcases hl with z | ⟨p, hp, _⟩
      · rw [z]; decide
      · exact hp.n0 hc6
    rw [if_pos ⟨esg, ln0⟩] at rowR
    rw [esg] at krow
    have TI := h.2.2.2.2.2.2.2
    -- each is null, or points to what lives
    have one : ∀ (x : Int32) (v : AV), (x = -2 ∨ ∃ p, rowP Sf x p ∧ (Sf.1 66 p = 1 ∨ Sf.1 66 p = 2)) → VTs Sf G nb rg na ng (fρ (Fr Dp)) v x → wS Sf x = 1 ∧ v.2.2 = 0 ∧ (v = ((0 : Int32), (0 : Nat), (0 : Nat)) ∨ ∃ p, rowP Sf x p ∧ 1 ≤ v.2.1 ∧ v.2.1 ≤ nb ∧ ot rg na ng (gHm G v.2.1) (fρ (Fr Dp) (Sf.1 67 p).toNatClampNeg) ∧ tgO G v.2.1 v.1 (tgt Sf (fρ (Fr Dp)) p)) := by
      intro x v hx hv
      rcases hx with z | ⟨p, hp, hk⟩
      · subst z
        unfold VTs at hv
        rw [if_pos rfl] at hv
        exact ⟨rfl, by rw [hv], Or.inl hv⟩
      · rw [VTs_p cx.1 hc6 hp hk] at hv
        rcases hv with ⟨_, e⟩ | ⟨a1, a2, a3, a4, a5⟩
        · exact ⟨wS_p hc6 hp hk, by rw [e], Or.inl e⟩
        · exact ⟨wS_p hc6 hp hk, a1, Or.inr ⟨p, hp, a2, a3, a4, a5⟩⟩
    obtain ⟨ws1, z1, k1⟩ := one _ _ hl hv1
    obtain ⟨ws2, z2, k2⟩ := one _ _ hr hv2
    have ls : wsl Sf (jj.2.2.1 :: s0) = 1 + wsl Sf s0 := by rw [← ws1]; rfl
    have l2 : wsl Sf (fst' (Fr Dp)) = 2 + wsl Sf s0 := by
      rw [e1, show wsl Sf (jj.2.2.2.1 :: jj.2.2.1 :: s0) = wS Sf jj.2.2.2.1 + wsl Sf (jj.2.2.1 :: s0) from rfl, ws2, ls]
      omega
    have w7' : (sI T 105 0 (nI (m + 1))).1 100 0 = nI (fbs (Fr Dp) + 80 + wsl Sf s0 + 2) := by rw [tp_105 (by omega), w7, l2]; congr 1; omega
    rw [ls] at hcw2
    have t0 : T.1 99 (fbs (Fr Dp) + 80 + wsl Sf s0) = CW G v1 0 := hcw1 0 (by rw [wv_0 z1]; omega)
    have t1 : T.1 99 (fbs (Fr Dp) + 80 + wsl Sf s0 + 1) = CW G v2 0 := by
      have := hcw2 0 (by rw [wv_0 z2]; omega)
      rw [show fbs (Fr Dp) + 80 + (1 + wsl Sf s0) + 0 = fbs (Fr Dp) + 80 + wsl Sf s0 + 1 by omega] at this
      exact this
    have key : (CW G v1 0 = CW G v2 0) ↔ (M.1 111 (fph (Fr Dp) + s0.length) = M.1 111 (fph (Fr Dp) + s0.length + 1) ∧ (M.1 111 (fph (Fr Dp) + s0.length) = -1 ∨ (M.1 110 (fph (Fr Dp) + s0.length) = M.1 110 (fph (Fr Dp) + s0.length + 1) ∧ M.1 112 (fph (Fr Dp) + s0.length) = M.1 112 (fph (Fr Dp) + s0.length + 1)))) := by
      rcases k1 with n1 | ⟨p, hp, a2, a3, a4, a5⟩
      · subst n1
        have y1 := RV_nul hrv1
        rw [CW_nul, y1]
        rcases k2 with n2 | ⟨q, hq, b2, b3, b4, b5⟩
        · subst n2
          have y2 := RV_nul hrv2
          rw [CW_nul, show fph (Fr Dp) + s0.length + 1 = fph (Fr Dp) + (s0.length + 1) from rfl, y2]
          exact ⟨fun _ => ⟨rfl, Or.inl rfl⟩, fun _ => rfl⟩
        · have lt := gPt_lt TI b2 b3 b5
          obtain ⟨r1, r2, r3⟩ := RV_p hrv2 z2 b2
          obtain ⟨_, to, _⟩ := TI v2.2.1 b2 b3
          rw [CW_pt z2 b2, show fph (Fr Dp) + s0.length + 1 = fph (Fr Dp) + (s0.length + 1) from rfl, r2]
          exact ⟨fun w => absurd w.symm (nz1 (by omega)), fun w => absurd w.1 (nI_neg1 (by omega))⟩
      · have lt := gPt_lt TI a2 a3 a5
        obtain ⟨r1, r2, r3⟩ := RV_p hrv1 z1 a2
        obtain ⟨_, to, _⟩ := TI v1.2.1 a2 a3
        rw [CW_pt z1 a2, r2]
        rcases k2 with n2 | ⟨q, hq, b2, b3, b4, b5⟩
        · subst n2
          have y2 := RV_nul hrv2
          rw [CW_nul, show fph (Fr Dp) + s0.length + 1 = fph (Fr Dp) + (s0.length + 1) from rfl, y2]
          exact ⟨fun w => absurd w (nz1 (by omega)), fun w => absurd w.1.symm (nI_neg1 (by omega))⟩
        · have lt2 := gPt_lt TI b2 b3 b5
          obtain ⟨y1, y2, y3⟩ := RV_p hrv2 z2 b2
          obtain ⟨_, to2, _⟩ := TI v2.2.1 b2 b3
          rw [CW_pt z2 b2, show fph (Fr Dp) + s0.length + 1 = fph (Fr Dp) + (s0.length + 1) from rfl, y1, y2, y3, r1, r3]
          obtain ⟨g1, g2, g3, g4, g5⟩ := hlr p q hp hq
          have alive : ∀ (p : Nat) (x : Int32) (b : Nat), rowP Sf x p → ¬ isLv (fS (Fr Dp)) (Sf.1 67 p) = 0 → ot rg na ng (gHm G b) (fρ (Fr Dp) (Sf.1 67 p).toNatClampNeg) → al rg na (gHm G b) := fun p x b hp hl ho => by
            obtain ⟨cr, ecr, hcr⟩ := (cx.1 p hp.2.1 hp.2.2).2.1
            change Sf.1 67 p = nI cr at ecr
            rw [ecr] at hl
            rw [ecr, nc (by omega)] at ho
            exact ho.2.2 (h.alv hcr hl)
          have al1 := alive p _ _ hp g4 a4
          have al2 := alive q _ _ hq g5 b4
          have n31 : v1.2.1 < 2 ^ 31 ∧ v2.2.1 < 2 ^ 31 := by
            have := h.1.2.2.1.2.1
            have := h.1.2.2.1.2.2.1
            omega
          constructor
          · intro w
            have w := nI_inj (by omega) (by omega) w
            by_cases h69 : Sf.1 69 p < 0
            · rw [tgt_c h69] at a5
              rw [tgt_c (by rw [← g2]; exact h69)] at b5
              obtain ⟨q1, x1, qp1, un1, _⟩ := tgO_c a5
              obtain ⟨q2, x2, qp2, un2, _⟩ := tgO_c b5
              have tp1 := (TI v1.2.1 a2 a3).2.2.2.2.1
              have tp2 := (TI v2.2.1 b2 b3).2.2.2.2.1
              unfold gPt at w
              rw [x1, x2, nc (by omega), nc (by omega)] at w
              obtain ⟨e5, e6⟩ := h.1.inj a2 a3 b2 b3 al1 al2 (fun _ => qp1) (fun _ => qp2) (by omega)
              rw [x1, x2, e5, e6 un1]
              exact ⟨rfl, Or.inr ⟨rfl, rfl⟩⟩
            · have h69' : 0 ≤ Sf.1 69 p := Int32.not_lt.mp h69
              have o := (cx.1 p hp.2.1 hp.2.2).2.2.2.2
              change (if 0 ≤ Sf.1 69 p then ∃ t, Sf.1 69 p = nI t ∧ t < inn Sf else _) at o
              rw [if_pos h69'] at o
              obtain ⟨t, ht, ht2⟩ := o
              have i24 := cx.2.2.2.2.1
              rw [tgt_t ht (by omega)] at a5
              rw [tgt_t (t := t) (by rw [← g2]; exact ht) (by omega)] at b5
              obtain ⟨x1, _⟩ := tgO_t a5
              obtain ⟨x2, _⟩ := tgO_t b5
              have tp1 := (TI v1.2.1 a2 a3).2.2.2.1
              have tp2 := (TI v2.2.1 b2 b3).2.2.2.1
              unfold gPt at w
              rw [x1, x2, show (0 : Int32).toNatClampNeg = 0 from rfl] at w
              obtain ⟨e5, e6⟩ := h.1.inj (q := 0) (q' := 0) a2 a3 b2 b3 al1 al2 (fun _ => by omega) (fun _ => by omega) (by omega)
              rw [x1, x2, e5]
              exact ⟨rfl, Or.inr ⟨rfl, rfl⟩⟩
          · rintro ⟨w1, w2⟩
            rcases w2 with w2 | ⟨w2, w3⟩
            · exact absurd w2.symm (nI_neg1 (by omega))
            · have := nI_inj31 n31.1 n31.2 w3
              unfold gPt
              rw [w2, this]
    refine ex_go (v := ((if CW G v1 0 = CW G v2 0 then 1 else 0), 0, 0)) (p3 := M.1 112 (fph (Fr Dp) + s0.length)) (p4 := M.1 113 (fph (Fr Dp) + s0.length)) (f := fun _ => (if CW G v1 0 = CW G v2 0 then 1 else 0)) (st := [jj.2.2.2.1, jj.2.2.1]) (s0 := s0) cx h rn hn hm hn2 h51 hm2 h6 rowR (by decide) krow (by decide) e1 hI VTs_0 RV_0 (fun i _ => CW_0.symm) ?_ ?_
    · rw [x_r21 w6' (by omega) (by omega), rp_111, tp_102 (by omega), tp_102 (by omega)]
      unfold smV
      rw [tp_102 (by omega), tp_102 (by omega), tp_102 (by omega), tp_102 (by omega), tp_102 (by omega), tp_102 (by omega)]
      simp only [key]
    · rw [show opK 256 = 15 from rfl, dC_206 (by decide) (by decide), c_num w7' (by omega) (by omega) (Or.inr (Or.inr (Or.inr (Or.inl rfl)))), tp_105 (by omega), tp_105 (by omega), t0, t1, ps_stW]
      rfl
  · -- numbers
    rw [ez] at ro rowR hI ⊢
    rw [if_pos isRo_0, if_neg (fun w => w.2 el)] at rowR
    rw [if_neg (ro.mp isRo_0)] at krow
    rw [el] at hv1
    rw [er] at hv2
    obtain ⟨i1, i2⟩ := hv2.i0
    obtain ⟨i3, i4⟩ := hv1.i0
    have ls : wsl Sf (jj.2.2.1 :: s0) = 1 + wsl Sf s0 := by rw [el, show wsl Sf (0 :: s0) = wS Sf 0 + wsl Sf s0 from rfl, wS_0]
    have l2 : wsl Sf (fst' (Fr Dp)) = 2 + wsl Sf s0 := by
      rw [e1, show wsl Sf (jj.2.2.2.1 :: jj.2.2.1 :: s0) = wS Sf jj.2.2.2.1 + wsl Sf (jj.2.2.1 :: s0) from rfl, er, wS_0, ls]
      omega
    have w7' : (sI T 105 0 (nI (m + 1))).1 100 0 = nI (fbs (Fr Dp) + 80 + wsl Sf s0 + 2) := by rw [tp_105 (by omega), w7, l2]; congr 1; omega
    rw [ls] at hcw2
    have m0 : M.1 110 (fph (Fr Dp) + s0.length) = v1.1 := RV_i hrv1 i3 i4
    have m1 : M.1 110 (fph (Fr Dp) + s0.length + 1) = v2.1 := RV_i hrv2 i1 i2
    have m2 : M.1 111 (fph (Fr Dp) + s0.length) = -1 := by
      unfold RV at hrv1
      rw [if_pos i4, if_pos i3] at hrv1
      exact hrv1.2
    have t0 : T.1 99 (fbs (Fr Dp) + 80 + wsl Sf s0) = v1.1 := (hcw1 0 (by rw [wv_0 i4]; omega)).trans (CW_i i3 i4)
    have t1 : T.1 99 (fbs (Fr Dp) + 80 + wsl Sf s0 + 1) = v2.1 := by
      have := hcw2 0 (by rw [wv_0 i2]; omega)
      rw [CW_i i1 i2, show fbs (Fr Dp) + 80 + (1 + wsl Sf s0) + 0 = fbs (Fr Dp) + 80 + wsl Sf s0 + 1 by omega] at this
      exact this
    obtain ⟨ob1, ob2, ob3⟩ := opK_b (sg := jj.2.1)
    by_cases dz : (jj.2.1 = 47 ∨ jj.2.1 = 37) ∧ v2.1 = 0
    · refine Or.inr (Or.inl (rz_go (d1 := d - 2) (d2 := d' - 1) h hn hm hn2 h51 hm2 h6 rowR (by decide) krow ob3 4 (nI (fph (Fr Dp) + s0.length + 1)) (nI (fbs (Fr Dp) + 80 + wsl Sf s0)) (by omega) (by omega) (fun r l M' hM => ?_) (fun r l T' hT => ?_)))
      · exact x_r19z w6' (by omega) dz.1 (by rw [tp_102 (by omega), m1]; exact dz.2) hM (by omega)
      · rw [dC_206 ob1 ob2, c_div0 w7' (by omega) (by omega) (opK_47 dz.1) (by rw [tp_105 (by omega), t1]; exact dz.2), hT, bis]
    · refine ex_go (v := (rkV jj.2.1 v1.1 v2.1, 0, 0)) (p3 := M.1 112 (fph (Fr Dp) + s0.length)) (p4 := M.1 113 (fph (Fr Dp) + s0.length)) (f := fun _ => rkV jj.2.1 v1.1 v2.1) (st := [jj.2.2.2.1, jj.2.2.1]) (s0 := s0) cx h rn hn hm hn2 h51 hm2 h6 rowR (by decide) krow ob3 e1 hI VTs_0 RV_0 (fun i _ => CW_0.symm) ?_ ?_
      · rw [x_r19 w6' (by omega) (fun w z => dz ⟨w, by rw [← m1]; rw [tp_102 (by omega)] at z; exact z⟩) (by omega), rp_110, tp_102 (by omega), tp_102 (by omega), tp_102 (by omega), tp_102 (by omega), tp_102 (by omega), m0, m1, m2]
      · rw [dC_206 ob1 ob2, c_num w7' (by omega) (by omega) ?_, tp_105 (by omega), tp_105 (by omega), t0, t1, ps_stW, nu_rk]
        · rfl
        · rcases opK_c (sg := jj.2.1) with (w | w | w | w | w) | ⟨w, z⟩
          · exact Or.inl w
          · exact Or.inr (Or.inl w)
          · exact Or.inr (Or.inr (Or.inl w))
          · exact Or.inr (Or.inr (Or.inr (Or.inl w)))
          · exact Or.inr (Or.inr (Or.inr (Or.inr (Or.inl w))))
          · exact Or.inr (Or.inr (Or.inr (Or.inr (Or.inr ⟨w, by rw [tp_105 (by omega), t1]; exact fun q => dz ⟨z, q⟩⟩))))
end XE6
