/-! both builds, with the reference's names */
-/
def Prg2 (X : Lx) (its : List It) (S Sf M T : gSt) : Prop := M.2 = Sf.2 ∧ Prg X its S Sf M T
def BlQ2 (M T M' T' : gSt) : Prop := CbI T T' ∧ Ri M' ∧ M'.1 0 = M.1 0 ∧ M'.1 1 0 = 0 ∧ M'.1 9 0 = 1 ∧ M'.1 7 0 = T'.1 53 0 ∧ M'.1 8 0 = T'.1 54 0 ∧ (∀ k, 100 ≤ k → M'.1 k = (stpS M).1 k) ∧ ((M'.1 10 0 = 0 ∧ T'.1 3 0 = 0) ∨ (M'.1 10 0 = 1 ∧ T'.1 3 0 = 1 ∧ ∃ X its S Sf, Prg2 X its S Sf M' T'))
section SWH
variable {S S' T T' M M' M1 M2 : gSt} {X : Lx} {nf d e k i j z r m t it : Nat} {its : List It}
/-- THE BUILDS of both -/
theorem b_bld2 {d' : Nat} (hnf : 16385 ≤ nf) (hd : 700 ≤ d) (hd' : 543 ≤ d') (h1 : M.1 1 0 = nI z) (hRi : Ri M) (hT : CbP T z) (h0 : T.1 0 = M.1 0) (hI : I78 M) (hJ : I54 T) : wp (RR nf (d + 2) 126 M [] []) (fun r _ M' => wp (PP nf d' 3 T [] []) (fun r' _ T' => r' = r ∧ BlQ2 M T M' T' ∧ I78 M' ∧ I54 T')) := by
  have hT0 := hT
  obtain ⟨c1, c2, c3, c4, c5, c6, c7⟩ := hT0
  have hch : ∀ j, j < z → 0 ≤ M.1 0 j ∧ M.1 0 j ≤ 255 := fun j hj => by rw [← h0]; exact c3 j (by omega)
  have wR := x_bld (nf := nf) (d := d) c2 hch (by omega) hd h1 hRi
  obtain ⟨r, l, M', eR, hB⟩ := wR
  refine ⟨r, l, M', eR, ?_⟩
  have i78 : I78 M' := jv_RR (d + 2) 126 M [] [] hI (jvA_o (by decide)) r l M' eR
  rcases hB with ⟨e, M1, p1, p2, p3, p4, p5, p6, p7⟩ | ⟨its, S, M1, p1, p2, ⟨M2, p3, p4, p5, p6, p7⟩, p8, p9, p10, p11, p12, p13⟩
  · have wP := c_bld (nf := nf) (d := d') (S := M) (T := T) hnf hd' hT (fun its hp => by
      rw [h0] at hp
      rw [p1] at hp
      cases hp)
    obtain ⟨r', l', T', eP, cI, cE⟩ := wP
    have i54 : I54 T' := iv_PP d' 3 T [] [] hJ (ivA_o (by decide) (by decide)) r' l' T' eP
    obtain ⟨b1, b2, b3, b4, b5⟩ := bl_0 p5
    rw [h0] at cE
    rcases cE with ⟨e', q1, q2, q3, q4, q5⟩ | ⟨its, q1, _⟩
    · rw [p1] at q1
      cases q1
      subst p7
      refine ⟨r', l', T', eP, by rw [q2, p6], ⟨cI, fun c hc => by rw [sI_ne (by omega)]; exact p4 c hc, by rw [sI_ne (by omega)]; exact b1, sI_v, by rw [sI_ne (by omega)]; exact b3, by rw [sI_ne (by omega), p2, q4], by rw [sI_ne (by omega), p3, q5], fun k hk => by rw [sI_ne (by omega)]; exact bl_k (by omega) p5, Or.inl ⟨by rw [sI_ne (by omega)]; exact b4, q3⟩⟩, i78, i54⟩
    · rw [p1] at q1
      cases q1
  · obtain ⟨b1, b2, b3, b4, b5⟩ := bl_0 p4
    have eS : ∀ k, anF k = false → S.1 k = M2.1 k := fun k hk => by rw [← p3]; exact er_i hk
    have hBs : BsP (mkX (M.1 0) z) its S z := by
      refine ⟨p2, ⟨M2, p3, p5, p6, ?_⟩, by rw [eS 1 (by decide), b2]; exact h1, fun k k1 k2 => ?_⟩
      · have hI := p2.2.2.1
        cases its with
        | nil => exact absurd p1 (pIts_ne _ _)
        | cons x xs =>
          have w := hI.1.1.2.2.2.2.2.2.2.2
          unfold nW at w ⊢
          rw [eS 37 (by decide)] at w
          exact w
      · have : anF k = false := by unfold anF; simp; omega
        rw [eS k this]
        exact b5 k k1 k2
    have wP := c_bld (nf := nf) (d := d') (S := S) (T := T) hnf hd' hT (fun its' hp => by
      rw [h0] at hp ⊢
      rw [p1] at hp
      cases hp
      exact hBs)
    obtain ⟨r', l', T', eP, cI, cE⟩ := wP
    have i54 : I54 T' := iv_PP d' 3 T [] [] hJ (ivA_o (by decide) (by decide)) r' l' T' eP
    refine ⟨r', l', T', eP, ?_⟩
    rw [h0] at cE
    rcases cE with ⟨e', q1, _⟩ | ⟨its', q1, hO⟩
    · rw [p1] at q1
      cases q1
    · rw [p1] at q1
      cases q1
      have eF : ∀ k, anF k = false → M1.1 k = (fnsL (mkX (M.1 0) z) its 0 0 (hdsS (mkX (M.1 0) z) its S)).1 k := fun k hk => by rw [← p8]; exact (er_i hk).symm
      have p8' : er M1 = fnsL (mkX (M.1 0) z) its 0 0 (hdsS (mkX (M.1 0) z) its (er M2)) := by rw [p3]; exact p8
      have fk : ∀ k, k = 0 ∨ k = 9 ∨ k = 10 ∨ k = 11 → M1.1 k = M2.1 k := fun k hk => bld_fk p8' (by omega) (by omega) (by omega) (by omega) (by omega) (by omega) (by omega)
      have f9 : ∀ k, 100 ≤ k → M1.1 k = (stpS M).1 k := fun k hk => by
        have an : anF k = false := by unfold anF; simp; omega
        rw [eF k an, F9.fns its 0 0 _ k (by omega), F9.hds k (by omega), eS k an]
        exact bl_k (by omega) p4
      rcases hO with ⟨bf, q2, q3⟩ | ⟨q2, q3, q4, q5, q6, q7, q8⟩
      · have n7 : ¬ M1.1 7 0 = 0 := by rw [eF 7 (by decide)]; exact bf.1
        obtain ⟨r1, r2⟩ := p12 n7
        subst r2
        exact ⟨by rw [q2, r1], ⟨cI, fun c hc => by rw [sI_ne (by omega)]; exact p10 c hc, by rw [sI_ne (by omega), fk 0 (by omega)]; exact b1, sI_v, by rw [sI_ne (by omega), fk 9 (by omega)]; exact b3, by rw [sI_ne (by omega), eF 7 (by decide), bf.2.1], by rw [sI_ne (by omega), eF 8 (by decide), bf.2.2], fun k hk => by rw [sI_ne (by omega)]; exact f9 k hk, Or.inl ⟨by rw [sI_ne (by omega), fk 10 (by omega)]; exact b4, q3⟩⟩, i78, i54⟩
      · have e7 : (fnsL (mkX (M.1 0) z) its 0 0 (hdsS (mkX (M.1 0) z) its S)).1 7 0 = 0 := q5.1.2.2.2.1
        have e53 : T'.1 53 0 = 0 := q5.1.2.2.2.2.1
        have m7 : M1.1 7 0 = 0 := by rw [eF 7 (by decide)]; exact e7
        obtain ⟨r1, T2, n', lo, n12, eM, cd, gk, ck⟩ := p13 m7
        have oM : ∀ k, k ≠ 1 → k ≠ 10 → k ≠ 36 → k ≠ 93 → ¬ (95 ≤ k ∧ k ≤ 99) → M'.1 k = M1.1 k := fun k k1 k2 k3 k4 k5 => by
          rw [eM, sI_ne k2, lo.2.2.1 k k4 k3 k5, sI_ne (by omega), sI_ne k1]
        have e11 : M1.1 11 0 = nI its.length := by rw [fk 11 (by omega), ← eS 11 (by decide)]; exact p2.1
        have m7' : M'.1 7 0 = 0 := by rw [oM 7 (by omega) (by omega) (by omega) (by omega) (by omega)]; exact m7
        have e1 : M'.1 1 0 = 0 := by
          rw [eM, sI_ne (by omega), lo.2.2.1 1 (by omega) (by omega) (by omega), sI_ne (by omega), sI_v]
        refine ⟨by rw [q2, r1, e11], ⟨cI, fun c hc => by rw [oM 74 (by omega) (by omega) (by omega) (by omega) (by omega)]; exact p10 c hc, by rw [oM 0 (by omega) (by omega) (by omega) (by omega) (by omega), fk 0 (by omega)]; exact b1, e1, by rw [oM 9 (by omega) (by omega) (by omega) (by omega) (by omega), fk 9 (by omega)]; exact b3, by rw [m7', e53], by rw [i78 m7', i54 e53], fun k hk => by rw [oM k (by omega) (by omega) (by omega) (by omega) (by omega)]; exact f9 k hk, Or.inr ⟨by rw [eM, sI_v], q3, mkX (M.1 0) z, its, S, _, (by rw [eM]; exact Eq.trans (b := M1.2) lo.2.2.2.1 (show (er M1).2 = _ from by rw [p8])), rfl, p2, p1, e7, ?_, ?_, ?_, ⟨n', ?_, n12⟩, fun k k1 k2 k3 k4 k5 => ?_, q5, q6, q4, q7, q8⟩⟩, i78, i54⟩
        · have : cn M1 = cn (fnsL (mkX (M.1 0) z) its 0 0 (hdsS (mkX (M.1 0) z) its S)) := by unfold cn; rw [eF 65 (by decide)]
          rw [← this]
          exact p9
        · rw [← p8]; exact ck
        · rw [← p8]; exact gk
        · rw [eM]
          exact CdL_eq (fun k hk => sI_ne (by omega)) its _ _ _ _ _ cd
        · have kk : k ≠ 93 := by omega
          rw [oM k k2 k3 k4 kk (by omega)]
          exact eF k k5
end SWH
/-- all that runs lean on; u: main */
-/
def PgA (M0 T0 Sf : gSt) (n1 n27 u : Nat) : Prop := CxP M0 T0 Sf ∧ FwQ Sf T0 ∧ PgG M0 T0 Sf n1 ∧ nU M0 ≤ 4000 ∧ T0.1 27 0 = nI n27 ∧ n27 ≤ 24 ∧ inn Sf = n27 ∧ T0.1 51 0 = nI n1 ∧ n1 ≤ 6032 ∧ M0.1 11 0 = nI n27 ∧ (u < n27 ∧ Sf.1 12 u = 2 ∧ ff (isFu M0 mnW) 0 n27 = nI u ∧ ff (isIt T0 true 1835100526) 0 n27 = nI u ∧ eN Sf u = 0 ∧ Sf.1 19 u = 0 ∧ T0.1 41 u = nI 0)
section SWH2
variable {M T S Sf : gSt} {X : Lx} {its : List It}
theorem prg_a (h : Prg2 X its S Sf M T) : ∃ n1 n27 u, PgA M T Sf n1 n27 u := by
  obtain ⟨m2, hP⟩ := h
  have hP0 := hP
  obtain ⟨n1, cx, fq, pg, nu, h27, l24, hin, h51, n6, hf0⟩ := prg_all hP
  obtain ⟨hSf, rm, hp, _, hc, ck, gk, _, hM, ⟨⟨hs, _, ai, ct, h71⟩, _⟩⟩ := hP0
  have fwF : FW (hdsS X its S) Sf := by rw [hSf]; exact FW.fns _ _ _ _
  have oF : ∀ k, k < 64 → k ≠ 7 → k ≠ 8 → Sf.1 k = (hdsS X its S).1 k := fun k a b c => fwF.1 k a b c
  have o2 : Sf.2 13 = (hdsS X its S).2 13 := by rw [hSf]; exact fns_k2 (by omega) its 0 0 _
  have i12 : M.1 12 = Sf.1 12 := hM 12 (by omega) (by omega) (by omega) (by omega) (by decide)
  have e11 : M.1 11 0 = nI its.length := by
    rw [hM 11 (by omega) (by omega) (by omega) (by omega) (by decide), ck.2.2.2.1, hin]
  have mq : mnQ (hdsL X its 0 0 (sI S 65 0 1)) := Decidable.byContradiction fun w => by
    have z := fwF.ok hf0
    unfold hdsS mnS at z
    rw [if_neg w] at z
    exact flT_bad (by decide) z
  have eH : hdsS X its S = hdsL X its 0 0 (sI S 65 0 1) := by unfold hdsS mnS; rw [if_pos mq]
  rw [← eH] at mq
  obtain ⟨q1, q2, q3, q4⟩ := mq
  have inH : inn (hdsS X its S) = its.length := by rw [← hin]; unfold inn; rw [oF 11 (by omega) (by omega) (by omega)]
  have eFS : isFu (hdsS X its S) mnW = isFu Sf mnW := by
    funext q
    unfold isFu
    rw [oF 12 (by omega) (by omega) (by omega), o2]
  have eFM : isFu M mnW = isFu Sf mnW := by
    funext q
    unfold isFu
    rw [i12, m2]
  obtain ⟨u, hu, hu2, hu3⟩ : ∃ u, mnF (hdsS X its S) = nI u ∧ u < its.length ∧ isFu Sf mnW u = true := by
    rcases ff_val (p := isFu (hdsS X its S) mnW) (k := inn (hdsS X its S)) (i := 0) with hv | ⟨j, g1, g2, g3, g4⟩
    · exact absurd (show mnF (hdsS X its S) < 0 from by unfold mnF; rw [hv]; decide) q1
    · exact ⟨j, g4, by omega, by rw [← eFS]; exact g3⟩
  rw [hu, nc (by omega)] at q2 q3 q4
  have s12 : Sf.1 12 u = 2 := by
    unfold isFu at hu3
    exact of_decide_eq_true (Bool.and_eq_true_iff.mp hu3).1
  have hfF : ff (isFu Sf mnW) 0 its.length = nI u := by
    have z := hu
    unfold mnF at z
    rw [eFS, inH] at z
    exact z
  have w19 : mnW = 1835100526 := by decide +kernel
  obtain ⟨c, m, iq⟩ := cx.2.2.2.2.2 u (by omega)
  have k0 : Sf.1 19 u = 0 := by
    rw [← oF 19 (by omega) (by omega) (by omega), iq.2.1] at q3
    have : m = 0 := Decidable.byContradiction fun w => q3 ((nI_ltI (a := 0) (b := m) (by omega) (by have := iq.2.2.1; omega)).mpr (by omega))
    rw [iq.2.1, this]
    rfl
  have e0 : eN Sf u = 0 := by
    obtain ⟨_, _, r, _, _, _, _, _, b5, b6, _⟩ := ck.2.2.2.2.2 u (by omega)
    rw [← oF 15 (by omega) (by omega) (by omega), b5] at q2
    have : r = 0 := Decidable.byContradiction fun w => q2 ((nI_ltI (a := 0) (b := r) (by omega) (by omega)).mpr (by omega))
    unfold eN
    rw [b5, this]
    rfl
  have m0 : m = 0 := nI_inj (by have := iq.2.2.1; omega) (by omega) (by rw [← iq.2.1, k0]; rfl)
  refine ⟨n1, its.length, u, cx, fq, pg, nu, h27, l24, hin, h51, n6, e11, hu2, s12, by rw [eFM]; exact hfF, ?_, e0, k0, ?_⟩
  · rw [it_findF hs.2.1 h27 l24, hin, ← w19]
    exact hfF
  · rw [iq.2.2.2.2.2.2.1, if_neg (by rw [s12]; decide), m0]
    rfl
end SWH2
