/-! both machines: TRIES -/
section SS9
variable {M0 T0 Sf S Sh : gSt} {G G' : GH} {D D' : Nat → (Nat → AV) × Nat} {nf d d' nb nb' mk mk' na na' ng ng' e bs ph bt rb tb ie en hb k q u s i j c t h P W Dp n m it n1 : Nat} {rg rg' : Nat → Nat} {ρ : Nat → Nat} {va : Nat → AV} {M M' T T' : gSt} {v : AV} {x a b cc ee op y z w : Int32} {st s0 st' : List Int32} {ov o0 ov' : List AV} {hs : List HD} {F : FRM} {Fr : Nat → FRM} {f : Nat → Int32} {jj : T5} {r1 : Int32} {l1 : Int64} {tg : List Nat}
variable {S' : gSt} {hx hy : Nat}
theorem st_tries (cx : CxP M0 T0 Sf) (h : Sim M0 T0 Sf G D nb mk rg na ng P W Fr Dp M T) (rn : RnO M T) (hn : fn (Fr Dp) = n) (hm : fm (Fr Dp) = m) (hn2 : n < 12000) (h51 : T0.1 51 0 = nI n1) (hm2 : m < n1) (h6 : n1 ≤ 6032) (rowR : rwC4 M0 n = (34, nI hx, Sh.1 87 0, ee)) (rowC : cw3 T0 m = (54, nI hy, y)) (hst : fst' (Fr Dp) = []) (ht : TrsS Sf (fS (Fr Dp)) S' Sh) (hI : IvP Sf (fit (Fr Dp)) S' [] ((hx, hy, Sh) :: fhs (Fr Dp))) (hd : 20 ≤ d) (hd' : 20 ≤ d') : ∃ M' T', StR nf d M M' ∧ StC nf d' T T' ∧ RnO M' T' ∧ Sim M0 T0 Sf G D nb mk rg na ng P W (updF Fr Dp (mkF S' (fρ (Fr Dp)) (fva (Fr Dp)) [] [] ((hx, hy, Sh) :: fhs (Fr Dp)) (fit (Fr Dp)) (n + 1) (m + 1) (fbs (Fr Dp)) (fph (Fr Dp)) (frb (Fr Dp)) (ftb (Fr Dp)) (fie (Fr Dp)))) Dp M' T' := by
  obtain ⟨w1, w2, w3, w4, w5, w6, w7, w8, w9⟩ := h.rw (n := n) (m := m)
  obtain ⟨b1, b2, b3, b4, b5⟩ := h.bd
  have hc6 : cn Sf ≤ 6000 := by have := cx.2.1; omega
  obtain ⟨fr, iv⟩ := h.fr
  obtain ⟨s1, s2, s3, s4, s5, s6, s7, s8, s9, s10, s11⟩ := ht
  have hS := h
  obtain ⟨a1, ⟨a2, a3, a4⟩, a5, a6, a7, a8, a9, a10⟩ := h
  have tb := (a5.bd Dp (Nat.le_refl _)).2.2.2
  have h20 := hI.2.2.2.2.2.2.2.1
  rw [List.length_cons] at h20
  obtain ⟨y1, y2, y3, y4, y5, y6, y7⟩ := a6
  rw [hst] at y1 y2
  obtain ⟨f1, f2, f3, f4, f5, f6⟩ := fr
  obtain ⟨g1, g2, _⟩ := a1.1
  have lve : lvc S' (arn S') = lvc (fS (Fr Dp)) (arn (fS (Fr Dp))) := by
    rw [s3, lvc, if_neg (fun w => w.1 (by rw [s4]; decide)), Nat.add_zero, lvc_ex s5 s6 _ (Nat.le_refl _)]
  have xr := x_r34 (M := sI M 102 0 (nI (n + 1))) (nf := nf) (d := d) (x := nI hx) (y := Sh.1 87 0) (z := ee) (k := (ftb (Fr Dp) + (fhs (Fr Dp)).length)) (by rw [tp_102 (by omega)]; exact y4) (by omega) (by omega)
  have xc := c_tryI (T := sI T 105 0 (nI (m + 1))) (nf := nf) (d := d') (x := nI hy) (y := y) (k := (ftb (Fr Dp) + (fhs (Fr Dp)).length)) (by rw [tp_105 (by omega)]; exact y5) (by omega) (by omega)
  have mO : ∀ k, k ≠ 102 → k ≠ 123 → ¬ (124 ≤ k ∧ k ≤ 128) → (trR (sI M 102 0 (nI (n + 1))) (ftb (Fr Dp) + (fhs (Fr Dp)).length) (nI hx) (Sh.1 87 0)).1 k = M.1 k := fun k k1 k2 k3 => by
    unfold trR
    rw [sI_ne k2, sI_ne (by omega), sI_ne (by omega), sI_ne (by omega), sI_ne (by omega), sI_ne (by omega), sI_ne k1]
  have mL : ∀ k q, 124 ≤ k → k ≤ 128 → q < (ftb (Fr Dp) + (fhs (Fr Dp)).length) → (trR (sI M 102 0 (nI (n + 1))) (ftb (Fr Dp) + (fhs (Fr Dp)).length) (nI hx) (Sh.1 87 0)).1 k q = M.1 k q := fun k q k1 k2 hq => by
    unfold trR
    rw [sI_ne (by omega), rdI, if_neg (by omega), rdI, if_neg (by omega), rdI, if_neg (by omega), rdI, if_neg (by omega), rdI, if_neg (by omega), sI_ne (by omega)]
  have tO : ∀ k, k ≠ 103 → k ≠ 104 → k ≠ 105 → (tyM (sI T 105 0 (nI (m + 1))) (ftb (Fr Dp) + (fhs (Fr Dp)).length) (nI hy)).1 k = T.1 k := fun k k1 k2 k3 => by
    unfold tyM
    rw [sI_ne k2, sI_ne k1, sI_ne k1, sI_ne k1, sI_ne k1, sI_ne k3]
  have tL : ∀ q, q < 4 * (ftb (Fr Dp) + (fhs (Fr Dp)).length) → (tyM (sI T 105 0 (nI (m + 1))) (ftb (Fr Dp) + (fhs (Fr Dp)).length) (nI hy)).1 103 q = T.1 103 q := fun q hq => by
    unfold tyM
    rw [sI_ne (by omega), rdI, if_neg (by omega), rdI, if_neg (by omega), rdI, if_neg (by omega), rdI, if_neg (by omega), sI_ne (by omega)]
  have hG : ∀ b, b ≤ nb → G b = G b := fun _ _ => rfl
  refine ⟨(trR (sI M 102 0 (nI (n + 1))) (ftb (Fr Dp) + (fhs (Fr Dp)).length) (nI hx) (Sh.1 87 0)), (tyM (sI T 105 0 (nI (m + 1))) (ftb (Fr Dp) + (fhs (Fr Dp)).length) (nI hy)), StR.of (by rw [w4, hn]) hn2 (by rw [w1]; exact rowR) (by decide) xr, StC.of (op := 54) (x := nI hy) (y := y) (r1 := 0) (l1 := 0) (by rw [w5, hm]) (by rw [w3]; exact h51) h6 hm2 (by rw [w2]; exact rowC) (by decide) (by rw [dC_214 (by decide) (by decide) (by decide) (by decide) (by decide)]; exact xc), ⟨by rw [mO 100 (by omega) (by omega) (by omega)]; exact rn.1, by rw [tO 106 (by omega) (by omega) (by omega)]; exact rn.2⟩, ?_⟩
  have va : ∀ (S2 : gSt), VaO Sf G nb rg na ng (fρ (Fr Dp)) (fva (Fr Dp)) M T Dp (fbs (Fr Dp)) S2 → VaO Sf G nb rg na ng (fρ (Fr Dp)) (fva (Fr Dp)) (trR (sI M 102 0 (nI (n + 1))) (ftb (Fr Dp) + (fhs (Fr Dp)).length) (nI hx) (Sh.1 87 0)) (tyM (sI T 105 0 (nI (m + 1))) (ftb (Fr Dp) + (fhs (Fr Dp)).length) (nI hy)) Dp (fbs (Fr Dp)) S2 := fun S2 h2 => h2.mo hG (Nat.le_refl _) (fun _ _ w => w) (fun k s k1 k2 _ => by rw [mO k (by omega) (by omega) (by omega)]) (fun q _ => by rw [tO 99 (by omega) (by omega) (by omega)])
  have frN : FrO Sf G nb rg na ng (trR (sI M 102 0 (nI (n + 1))) (ftb (Fr Dp) + (fhs (Fr Dp)).length) (nI hx) (Sh.1 87 0)) (tyM (sI T 105 0 (nI (m + 1))) (ftb (Fr Dp) + (fhs (Fr Dp)).length) (nI hy)) Dp (mkF S' (fρ (Fr Dp)) (fva (Fr Dp)) [] [] ((hx, hy, Sh) :: fhs (Fr Dp)) (fit (Fr Dp)) (n + 1) (m + 1) (fbs (Fr Dp)) (fph (Fr Dp)) (frb (Fr Dp)) (ftb (Fr Dp)) (fie (Fr Dp))) := by
    refine ⟨va _ (f1.le s9), True.intro, (RgO.ex f3 s1 s2 s3 s4 s5 s6 s7).mo (fun _ _ => rfl) (Nat.le_refl _) (fun _ _ w => w) (fun c _ => by rw [mO 121 (by omega) (by omega) (by omega)]) (fun w _ => by rw [tO 101 (by omega) (by omega) (by omega)]) (fun c w hw => RgE_12 hw), ?_, ⟨?_, va _ (f1.le s11), HsO.mo _ f5 hG (Nat.le_refl _) (fun _ _ w => w) (fun k s k1 k2 _ => by rw [mO k (by omega) (by omega) (by omega)]) (fun k q k1 k2 hq => mL k q k1 k2 hq) (fun q _ => by rw [tO 99 (by omega) (by omega) (by omega)]) (fun q hq => tL q hq)⟩, ?_⟩
    · obtain ⟨c, k1, k2, k3⟩ := f4
      refine ⟨c, s8.trans k1, k2, fun k hk1 hk2 => ?_⟩
      rw [tO 99 (by omega) (by omega) (by omega), mO 122 (by omega) (by omega) (by omega)]
      exact k3 k hk1 hk2
    · show (trR (sI M 102 0 (nI (n + 1))) (ftb (Fr Dp) + (fhs (Fr Dp)).length) (nI hx) (Sh.1 87 0)).1 124 (ftb (Fr Dp) + (fhs (Fr Dp)).length) = nI hx ∧ (trR (sI M 102 0 (nI (n + 1))) (ftb (Fr Dp) + (fhs (Fr Dp)).length) (nI hx) (Sh.1 87 0)).1 125 (ftb (Fr Dp) + (fhs (Fr Dp)).length) = nI (Dp + 1) ∧ (trR (sI M 102 0 (nI (n + 1))) (ftb (Fr Dp) + (fhs (Fr Dp)).length) (nI hx) (Sh.1 87 0)).1 126 (ftb (Fr Dp) + (fhs (Fr Dp)).length) = nI (fph (Fr Dp)) ∧ (trR (sI M 102 0 (nI (n + 1))) (ftb (Fr Dp) + (fhs (Fr Dp)).length) (nI hx) (Sh.1 87 0)).1 127 (ftb (Fr Dp) + (fhs (Fr Dp)).length) = nI (frb (Fr Dp) + lvc Sh (arn Sh)) ∧ (trR (sI M 102 0 (nI (n + 1))) (ftb (Fr Dp) + (fhs (Fr Dp)).length) (nI hx) (Sh.1 87 0)).1 128 (ftb (Fr Dp) + (fhs (Fr Dp)).length) = Sh.1 87 0 ∧ (tyM (sI T 105 0 (nI (m + 1))) (ftb (Fr Dp) + (fhs (Fr Dp)).length) (nI hy)).1 103 (4 * (ftb (Fr Dp) + (fhs (Fr Dp)).length)) = nI hy ∧ (tyM (sI T 105 0 (nI (m + 1))) (ftb (Fr Dp) + (fhs (Fr Dp)).length) (nI hy)).1 103 (4 * (ftb (Fr Dp) + (fhs (Fr Dp)).length) + 1) = nI (Dp + 1) ∧ (tyM (sI T 105 0 (nI (m + 1))) (ftb (Fr Dp) + (fhs (Fr Dp)).length) (nI hy)).1 103 (4 * (ftb (Fr Dp) + (fhs (Fr Dp)).length) + 2) = nI (fbs (Fr Dp) + 80) ∧ (tyM (sI T 105 0 (nI (m + 1))) (ftb (Fr Dp) + (fhs (Fr Dp)).length) (nI hy)).1 103 (4 * (ftb (Fr Dp) + (fhs (Fr Dp)).length) + 3) = nI (frb (Fr Dp) + lvc Sh (arn Sh))
      rw [s10, ← y3]
      unfold trR tyM
      refine ⟨?_, ?_, ?_, ?_, ?_, ?_, ?_, ?_, ?_⟩
      · rw [sI_ne (by omega), sI_ne (by omega), sI_ne (by omega), sI_ne (by omega), sI_ne (by omega), sI_v]
      · rw [sI_ne (by omega), sI_ne (by omega), sI_ne (by omega), sI_ne (by omega), sI_v, sI_ne (by omega)]; exact w8
      · rw [sI_ne (by omega), sI_ne (by omega), sI_ne (by omega), sI_v, sI_ne (by omega)]; exact y1
      · rw [sI_ne (by omega), sI_ne (by omega), sI_v, sI_ne (by omega)]; exact g1
      · rw [sI_ne (by omega), sI_v]
      · rw [sI_ne (by omega), rdI, if_neg (by omega), rdI, if_neg (by omega), rdI, if_neg (by omega), sI_v]
      · rw [sI_ne (by omega), rdI, if_neg (by omega), rdI, if_neg (by omega), sI_v, sI_ne (by omega)]; exact w9
      · rw [sI_ne (by omega), rdI, if_neg (by omega), sI_v, sI_ne (by omega)]; exact y2
      · rw [sI_ne (by omega), sI_v, sI_ne (by omega)]; exact g2
    · rw [tO 101 (by omega) (by omega) (by omega), mO 116 (by omega) (by omega) (by omega)]
      exact f6
  refine Sim.set cx.1 hc6 hS (a1.eq (fun k hk => mO k (by omega) (by omega) (by omega)) (fun k k1 k2 => tO k (by omega) (by omega) (by omega))) (fun _ _ w => w) (fun _ _ => rfl) (Nat.le_refl _) frN hI rfl rfl rfl rfl ⟨?_, ?_, ?_, ?_, ?_, ?_, ?_⟩ (mO 103 (by omega) (by omega) (by omega)) (tO 102 (by omega) (by omega) (by omega)) (mO 114 (by omega) (by omega) (by omega)) (fun k q hk => ?_) (fun q _ => by rw [tO 101 (by omega) (by omega) (by omega)]) (fun q hq => tL q (by omega)) (fun q hq => by rw [tO 99 (by omega) (by omega) (by omega)]) ?_ ?_ ?_
  · rw [mO 109 (by omega) (by omega) (by omega)]; exact y1
  · rw [tO 100 (by omega) (by omega) (by omega)]; exact y2
  · show na = frb (Fr Dp) + lvc S' (arn S')
    rw [lve]
    exact y3
  · unfold trR
    rw [sI_v]; rfl
  · unfold tyM
    rw [sI_v]; rfl
  · unfold trR
    rw [sI_ne (by omega), sI_ne (by omega), sI_ne (by omega), sI_ne (by omega), sI_ne (by omega), sI_ne (by omega), sI_v]; rfl
  · unfold tyM
    rw [sI_ne (by omega), sI_ne (by omega), sI_ne (by omega), sI_ne (by omega), sI_ne (by omega), sI_v]; rfl
  · by_cases z : 124 ≤ k ∧ k ≤ 128
    · exact mL k q z.1 z.2 (by omega)
    · rw [mO k (by omega) (by omega) z]
  · obtain ⟨w, i1, i2, i3, i4⟩ := a7
    exact ⟨w, by rw [mO 150 (by omega) (by omega) (by omega)]; exact i1, by rw [tO 111 (by omega) (by omega) (by omega)]; exact i2, i3, by rw [mO 151 (by omega) (by omega) (by omega), tO 110 (by omega) (by omega) (by omega)]; exact i4⟩
  · obtain ⟨k1, ⟨p, k2, k3, k4, k5⟩, k6, k7, k8, k9⟩ := a8
    exact ⟨by rw [mO 101 (by omega) (by omega) (by omega), tO 108 (by omega) (by omega) (by omega)]; exact k1, ⟨p, by rw [mO 104 (by omega) (by omega) (by omega)]; exact k2, by rw [tO 113 (by omega) (by omega) (by omega)]; exact k3, k4, by rw [mO 152 (by omega) (by omega) (by omega), tO 112 (by omega) (by omega) (by omega)]; exact k5⟩, by rw [mO 106 (by omega) (by omega) (by omega), tO 109 (by omega) (by omega) (by omega)]; exact k6, by rw [mO 107 (by omega) (by omega) (by omega)]; exact k7, by rw [tO 121 (by omega) (by omega) (by omega)]; exact k8, fun q hq => by rw [mO 115 (by omega) (by omega) (by omega), tO 101 (by omega) (by omega) (by omega)]; exact k9 q hq⟩
  · obtain ⟨k1, k2, k3, k4⟩ := a9
    exact ⟨fun k hk => by rw [mO k (by omega) (by omega) (by omega)]; exact k1 k hk, k2, fun k hk => by rw [tO k (by omega) (by omega) (by omega)]; exact k3 k hk, k4⟩
end SS9
