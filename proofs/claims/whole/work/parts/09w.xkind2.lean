/-! cell row nn size & as nodes -/
section KE
variable {nf d : Nat} {T T' T1 S : gSt} {X : Lx} {m n p u i k e l lo hi a b s f q v f0 c : Nat} {x y r w all z rg : Int32} {t ta tb : Tr} {nm : Int64}
theorem er_nu : er (nuS T x) = nuS (er T) x := er_w rfl
theorem er_mk : er (mkS T) = mkS (er T) := er_w rfl
theorem ch_bh (hw : Wf X ta false a b) (hb : b < 100000) (hC : Ck (er T)) (hc : cn (chk X ta 0 0 (er T)).2.2.2 < 6000) (h : er T' = (chk X ta 0 0 (er T)).2.2.2) : Bh T T' ∧ (T'.1 7 0 = 0 → tR (er T') (chk X ta 0 0 (er T)).1 ∧ lfOk X ta (chk X ta 0 0 (er T))) := by
  have iv := iv_ex0 (chk_inv ta) ⟨hw, hb⟩ hC hc
  refine ⟨⟨SP.of (by rw [h]; exact chk_fe ta 0 0 (er T)), by rw [h]; exact iv.1, by rw [← er_cn, h]; exact hc⟩, fun q => ?_⟩
  have q' : (er T').1 7 0 = 0 := q
  rw [h] at q' ⊢
  exact iv.2 q'
theorem kd_nn (hx : PI X) (hnf : 8300 ≤ nf) (hE : CkE nf X ta) (hk : xK X i = 31) (hR : RepM X T (tD 8 i e ta tb) lo hi x) (hhi : hi ≤ 8200) (hw : Wf X (tD 8 i e ta tb) false a b) (hbx : b ≤ xn X) (hX : xn X ≤ 4000) (hC : Ck (er T)) (hs : T.1 94 0 = nI s) (hss : s + (hi - lo) ≤ 8200) (hd : 6 * dpT ta + 24 ≤ d) (hUU : nU T ≤ 4000) (h0 : T.1 7 0 = 0) (hc : cn (chk X (tD 8 i e ta tb) 0 0 (er T)).2.2.2 < 6000) : wp (RR nf d 87 T [nI lo] []) (fun r _ T' => KR X (tD 8 i e ta tb) (chk X (tD 8 i e ta tb) 0 0 (er T)) T lo hi a b lo r T') := by
  rw [RepM_n] at hR
  unfold RpN at hR
  simp only [if_neg (show ¬ (8 = 1) by omega), if_neg (show ¬ (8 = 2) by omega), if_neg (show ¬ (8 = 3) by omega), if_neg (show ¬ (8 = 4) by omega), if_neg (show ¬ (8 = 5) by omega), if_neg (show ¬ (8 = 6) by omega), if_neg (show ¬ (8 = 7) by omega), if_pos (rfl : 8 = 8), if_neg (show ¬ xK X i = 29 by omega), if_neg (show ¬ xK X i = 30 by omega), if_pos hk] at hR
  obtain ⟨z, r1, r2, r3, r4, r5, r6⟩ := hR
  rw [Wf_n] at hw
  unfold WfN at hw
  simp only [if_neg (show ¬ (false = true) by decide), if_neg (show ¬ (8 = 1) by omega), if_neg (show ¬ (8 = 2) by omega), if_neg (show ¬ (8 = 3) by omega), if_neg (show ¬ (8 = 4) by omega), if_neg (show ¬ (8 = 5) by omega), if_neg (show ¬ (8 = 6) by omega), if_neg (show ¬ (8 = 7) by omega), if_pos (rfl : 8 = 8), if_neg (show ¬ xK X i = 29 by omega), if_neg (show ¬ xK X i = 30 by omega)] at hw
  obtain ⟨w1, c, w2, w3⟩ := hw
  have eN : chk X (tD 8 i e ta tb) 0 0 (er T) = nnC X (chk X ta) ta (er T) := by
    rw [chk_n, if_pos (show (er T).1 7 0 = 0 from h0)]
    unfold chN
    simp only [if_neg (show ¬ (8 = 1) by omega), if_neg (show ¬ (8 = 2) by omega), if_neg (show ¬ (8 = 3) by omega), if_neg (show ¬ (8 = 4) by omega), if_neg (show ¬ (8 = 5) by omega), if_neg (show ¬ (8 = 6) by omega), if_neg (show ¬ (8 = 7) by omega), if_pos (rfl : 8 = 8), if_neg (show ¬ xK X i = 29 by omega), if_neg (show ¬ xK X i = 30 by omega), if_pos hk, if_true]
  rw [eN] at hc ⊢
  obtain ⟨my, y1, y2, y3, y4, y5⟩ := RepM_nd ta _ _ _ _ z r6 w2
  have fa := chk_fe (X := X) ta 0 0 (er T)
  have ga := fa.tg hC.1
  have hcA : cn (chk X ta 0 0 (er T)).2.2.2 < 6000 := by
    unfold nnC at hc
    dsimp only at hc
    by_cases c1 : (chk X ta 0 0 (er T)).2.2.2.1 7 0 = 0
    · simp only [if_pos c1] at hc
      by_cases c2 : isPt (chk X ta 0 0 (er T)).2.2.2 (chk X ta 0 0 (er T)).1 = 0
      · simp only [if_pos c2] at hc
        exact (FE.fl (a := 4) (by decide)).lt ga hc
      · simp only [if_neg c2] at hc
        exact (FE.nu.tr FE.kn).lt ga hc
    · simp only [if_neg c1] at hc
      exact hc
  obtain ⟨d', rfl⟩ : ∃ g, d = g + 4 := ⟨d - 4, by omega⟩
  have wA := hE T (d' + 3) (lo + 1) hi _ c s z r6 hhi w2 (by omega) hC hs (by omega) (by omega) hUU hcA
  rw [y1] at wA r4
  refine wp_mono (x_nn (by omega) (by omega) (by omega) r5 r4 y4 wA (fun r T' h => by
    have := ch_bh w2 (by omega) hC hcA h.1
    refine ⟨this.1, fun q => ?_⟩
    rw [(h.2.2 q).1]
    exact (this.2 q).1)) ?_
  rintro r _ T' ⟨ra, T1, ⟨q1, q2, q3⟩, q4, q5⟩
  have bh := ch_bh w2 (by omega) hC hcA q1
  have sp1 := bh.1.1
  have fm1 : Fm X T T1 lo hi a b := q2.up (by omega) (by omega) (by omega) (by omega)
  unfold nnC at hc ⊢
  dsimp only at hc ⊢
  rw [← q1] at hc ⊢
  by_cases c1 : ¬ T1.1 7 0 = 0
  · have c1' : ¬ (er T1).1 7 0 = 0 := c1
    simp only [if_neg c1']
    rw [q4 c1]
    exact ⟨rfl, fm1, fun q => absurd q c1⟩
  have c1 := Decidable.not_not.mp c1
  have c1' : (er T1).1 7 0 = 0 := c1
  obtain ⟨q6, q7⟩ := q5 c1
  obtain ⟨e1, an⟩ := q3 c1
  rw [e1] at q6 q7
  simp only [if_pos c1'] at hc ⊢
  generalize (chk X ta 0 0 (er T)).1 = rA at *
  unfold nnT at q6 q7
  rw [er_isPt] at hc ⊢
  by_cases c2 : isPt T1 rA = 0
  · simp only [if_pos c2] at q6 q7 hc ⊢
    have hb : ¬ T'.1 7 0 = 0 := by rw [q7]; exact flT_bad (by decide)
    exact ⟨by rw [q7]; exact er_fl, by rw [q7]; exact fm1.tr (Fm.nt nt_fl) sp1, fun q => absurd q hb⟩
  · simp only [if_neg c2] at q6 q7 hc ⊢
    have et : ∀ g, anF g = false → tf (er T1) g rA = tf T1 g rA := fun g hg => by unfold tf; rw [er_i hg]
    rw [et 67 rfl, et 68 rfl, et 69 rfl, et 70 rfl, ← er_nu] at hc ⊢
    have nt5 : ∀ k, anF k = true → T'.1 k = T1.1 k := fun k hk => by rw [q7]; exact (nt_kn k hk).trans (nt_wr (by omega) k hk)
    have sp5 : SP T1 T' := by rw [q7]; exact (SP.fe FE.nu).tr (SP.fe FE.kn)
    refine ⟨by rw [q7]; exact er_knS, fm1.tr (Fm.nt nt5) sp1, fun q => ⟨by rw [er_knR]; exact q6 q, ?_⟩⟩
    rw [AnE_n]
    unfold AnN
    simp only [if_neg (show ¬ (8 = 1) by omega), if_neg (show ¬ (8 = 2) by omega), if_neg (show ¬ (8 = 3) by omega), if_neg (show ¬ (8 = 4) by omega), if_neg (show ¬ (8 = 5) by omega), if_neg (show ¬ (8 = 6) by omega), if_neg (show ¬ (8 = 7) by omega), if_pos (rfl : 8 = 8), if_neg (show ¬ xK X i = 29 by omega), if_neg (show ¬ xK X i = 30 by omega), if_pos hk]
    have o : ∀ (y : Int32) g m, 50 ≤ g → g ≤ 59 → (sI T' 60 lo y).1 g m = T.1 g m := fun y g m g1 g2 => by rw [sI_ne (by omega), (sp1.tr sp5).1 g (by omega) (by unfold anF; simp; omega)]
    refine ⟨nI my, rA, _, _, trivial, r2, by rw [o _ 52 lo (by omega) (by omega)]; exact r4, by rw [sI_v], trivial, AnE.kp (b := c) (by omega) ta false _ c (lo + 1) hi _ _ _ _ (Nat.le_refl _) w2 ((Kp.nt sp5 nt5).tr (Kp.t60 (by omega))) an, by rw [o _ 50 lo (by omega) (by omega)]; exact r5, rfl⟩
theorem kd_sz (hx : PI X) (hnf : 8300 ≤ nf) (hE : CkE nf X ta) (hk : ¬ xK X i = 29 ∧ ¬ xK X i = 30 ∧ ¬ xK X i = 31) (hR : RepM X T (tD 8 i e ta tb) lo hi x) (hhi : hi ≤ 8200) (hw : Wf X (tD 8 i e ta tb) false a b) (hbx : b ≤ xn X) (hX : xn X ≤ 4000) (hC : Ck (er T)) (hs : T.1 94 0 = nI s) (hss : s + (hi - lo) ≤ 8200) (hd : 6 * dpT ta + 24 ≤ d) (hUU : nU T ≤ 4000) (h0 : T.1 7 0 = 0) (hc : cn (chk X (tD 8 i e ta tb) 0 0 (er T)).2.2.2 < 6000) : wp (RR nf d 87 T [nI lo] []) (fun r _ T' => KR X (tD 8 i e ta tb) (chk X (tD 8 i e ta tb) 0 0 (er T)) T lo hi a b lo r T') := by
  rw [RepM_n] at hR
  unfold RpN at hR
  simp only [if_neg (show ¬ (8 = 1) by omega), if_neg (show ¬ (8 = 2) by omega), if_neg (show ¬ (8 = 3) by omega), if_neg (show ¬ (8 = 4) by omega), if_neg (show ¬ (8 = 5) by omega), if_neg (show ¬ (8 = 6) by omega), if_neg (show ¬ (8 = 7) by omega), if_pos (rfl : 8 = 8), if_neg hk.1, if_neg hk.2.1, if_neg hk.2.2] at hR
  obtain ⟨z, r1, r2, r3, r4, r5, r6⟩ := hR
  rw [Wf_n] at hw
  unfold WfN at hw
  simp only [if_neg (show ¬ (false = true) by decide), if_neg (show ¬ (8 = 1) by omega), if_neg (show ¬ (8 = 2) by omega), if_neg (show ¬ (8 = 3) by omega), if_neg (show ¬ (8 = 4) by omega), if_neg (show ¬ (8 = 5) by omega), if_neg (show ¬ (8 = 6) by omega), if_neg (show ¬ (8 = 7) by omega), if_pos (rfl : 8 = 8), if_neg hk.1, if_neg hk.2.1] at hw
  obtain ⟨w1, c, w2, w3⟩ := hw
  have eN : chk X (tD 8 i e ta tb) 0 0 (er T) = szC X (chk X ta) ta (er T) := by
    rw [chk_n, if_pos (show (er T).1 7 0 = 0 from h0)]
    unfold chN
    simp only [if_neg (show ¬ (8 = 1) by omega), if_neg (show ¬ (8 = 2) by omega), if_neg (show ¬ (8 = 3) by omega), if_neg (show ¬ (8 = 4) by omega), if_neg (show ¬ (8 = 5) by omega), if_neg (show ¬ (8 = 6) by omega), if_neg (show ¬ (8 = 7) by omega), if_pos (rfl : 8 = 8), if_neg hk.1, if_neg hk.2.1, if_neg hk.2.2, if_true]
  rw [eN] at hc ⊢
  obtain ⟨my, y1, y2, y3, y4, y5⟩ := RepM_nd ta _ _ _ _ z r6 w2
  have fa := chk_fe (X := X) ta 0 0 (er T)
  have ga := fa.tg hC.1
  have hcA : cn (chk X ta 0 0 (er T)).2.2.2 < 6000 := by
    unfold szC at hc
    dsimp only at hc
    by_cases c1 : (chk X ta 0 0 (er T)).2.2.2.1 7 0 = 0
    · simp only [if_pos c1] at hc
      by_cases c2 : isRo (chk X ta 0 0 (er T)).2.2.2 (chk X ta 0 0 (er T)).1 = 0
      · simp only [if_pos c2] at hc
        exact (FE.fl (a := 4) (by decide)).lt ga hc
      · simp only [if_neg c2] at hc
        exact hc
    · simp only [if_neg c1] at hc
      exact hc
  obtain ⟨d', rfl⟩ : ∃ g, d = g + 4 := ⟨d - 4, by omega⟩
  have wA := hE T (d' + 3) (lo + 1) hi _ c s z r6 hhi w2 (by omega) hC hs (by omega) (by omega) hUU hcA
  rw [y1] at wA r4
  refine wp_mono (x_sz (by omega) (by omega) r5 r4 y4 wA (fun r T' h => by
    have := ch_bh w2 (by omega) hC hcA h.1
    refine ⟨this.1, fun q => ?_⟩
    rw [(h.2.2 q).1]
    exact (this.2 q).1)) ?_
  rintro r _ T' ⟨ra, T1, ⟨q1, q2, q3⟩, q4, q5⟩
  have bh := ch_bh w2 (by omega) hC hcA q1
  have sp1 := bh.1.1
  have fm1 : Fm X T T1 lo hi a b := q2.up (by omega) (by omega) (by omega) (by omega)
  unfold szC at hc ⊢
  dsimp only at hc ⊢
  rw [← q1] at hc ⊢
  by_cases c1 : ¬ T1.1 7 0 = 0
  · have c1' : ¬ (er T1).1 7 0 = 0 := c1
    simp only [if_neg c1']
    rw [q4 c1]
    exact ⟨rfl, fm1, fun q => absurd q c1⟩
  have c1 := Decidable.not_not.mp c1
  have c1' : (er T1).1 7 0 = 0 := c1
  obtain ⟨q6, q7⟩ := q5 c1
  obtain ⟨e1, an⟩ := q3 c1
  rw [e1] at q6 q7
  simp only [if_pos c1'] at hc ⊢
  generalize (chk X ta 0 0 (er T)).1 = rA at *
  unfold szT at q6 q7
  rw [er_isRo] at hc ⊢
  by_cases c2 : isRo T1 rA = 0
  · simp only [if_pos c2] at q6 q7 hc ⊢
    have hb : ¬ T'.1 7 0 = 0 := by rw [q7]; exact flT_bad (by decide)
    exact ⟨by rw [q7]; exact er_fl, by rw [q7]; exact fm1.tr (Fm.nt nt_fl) sp1, fun q => absurd q hb⟩
  · simp only [if_neg c2] at q6 q7 hc ⊢
    subst q7
    refine ⟨rfl, fm1, fun q => ⟨q6, ?_⟩⟩
    rw [AnE_n]
    unfold AnN
    simp only [if_neg (show ¬ (8 = 1) by omega), if_neg (show ¬ (8 = 2) by omega), if_neg (show ¬ (8 = 3) by omega), if_neg (show ¬ (8 = 4) by omega), if_neg (show ¬ (8 = 5) by omega), if_neg (show ¬ (8 = 6) by omega), if_neg (show ¬ (8 = 7) by omega), if_pos (rfl : 8 = 8), if_neg hk.1, if_neg hk.2.1, if_neg hk.2.2]
    have o : ∀ (y : Int32) g m, 50 ≤ g → g ≤ 59 → (sI T' 60 lo y).1 g m = T.1 g m := fun y g m g1 g2 => by rw [sI_ne (by omega), sp1.1 g (by omega) (by unfold anF; simp; omega)]
    refine ⟨nI my, rA, _, _, trivial, r2, by rw [o _ 52 lo (by omega) (by omega)]; exact r4, by rw [sI_v], trivial, AnE.kp (b := c) (by omega) ta false _ c (lo + 1) hi _ _ _ _ (Nat.le_refl _) w2 (Kp.t60 (by omega)) an, by rw [o _ 50 lo (by omega) (by omega)]; exact r5, rfl⟩
/-- from a checked value to what is made of it -/
theorem md_fin {kd rg pl : Int32} {js : List T5} {R : ChR} (hkd : kd = 1 ∨ kd = 3) (h1 : er T1 = R.2.2.2) (hb : ¬ T1.1 7 0 = 0 → T' = T1) (hok : T1.1 7 0 = 0 → (T'.1 7 0 = 0 → r = (mdT T1 kd rg R.1 pl).1) ∧ T' = (mdT T1 kd rg R.1 pl).2) (hA : R = chk X ta 0 0 S) (hpl : pl = plT X ta) : er T' = (mdC X (chk X ta) ta kd rg js S).2.2.2 ∧ (∀ k, anF k = true → T'.1 k = T1.1 k) ∧ SP T1 T' ∧ (T'.1 7 0 = 0 → T1.1 7 0 = 0 ∧ r = (mdC X (chk X ta) ta kd rg js S).1 ∧ (mdC X (chk X ta) ta kd rg js S).2.1 = 0 ∧ (mdC X (chk X ta) ta kd rg js S).2.2.1 = js ++ R.2.2.1 ++ [j1 (if kd = 3 then 15 else 14) rg R.1 (mdC X (chk X ta) ta kd rg js S).1 0]) := by
  subst hA hpl
  unfold mdC
  dsimp only
  rw [← h1]
  by_cases c1 : ¬ T1.1 7 0 = 0
  · have c1' : ¬ (er T1).1 7 0 = 0 := c1
    have c2 : ¬ ((er T1).1 7 0 = 0 ∧ ¬ 0 ≤ (chk X ta 0 0 S).1) := fun q => c1' q.1
    simp only [if_neg c2, if_neg c1']
    rw [hb c1]
    exact ⟨rfl, fun _ _ => rfl, SP.rf, fun q => absurd q c1⟩
  have c1 := Decidable.not_not.mp c1
  have c1' : (er T1).1 7 0 = 0 := c1
  obtain ⟨q6, q7⟩ := hok c1
  unfold mdT at q6 q7
  by_cases c2 : 0 ≤ (chk X ta 0 0 S).1
  · have c3 : ¬ ((er T1).1 7 0 = 0 ∧ ¬ 0 ≤ (chk X ta 0 0 S).1) := fun q => q.2 c2
    simp only [if_neg c3, if_pos c1']
    simp only [if_pos c2] at q6 q7
    rw [← er_mk]
    refine ⟨by rw [q7]; exact er_knS, fun k hk => by rw [q7]; exact (nt_kn k hk).trans (nt_wr (by omega) k hk), by rw [q7]; exact (SP.fe FE.mk).tr (SP.fe FE.kn), fun q => ⟨c1, by rw [er_knR]; exact q6 q, trivial, trivial⟩⟩
  · have c3 : (er T1).1 7 0 = 0 ∧ ¬ 0 ≤ (chk X ta 0 0 S).1 := ⟨c1', c2⟩
    have hbe : ¬ (flT (er T1) 4 (plT X ta)).1 7 0 = 0 := flT_bad (by decide)
    simp only [if_pos c3, if_neg hbe]
    simp only [if_neg c2] at q6 q7
    have hb2 : ¬ T'.1 7 0 = 0 := by rw [q7]; exact flT_bad (by decide)
    exact ⟨by rw [q7]; exact er_fl, fun k hk => by rw [q7]; exact nt_fl k hk, by rw [q7]; exact SP.fe (FE.fl (by decide)), fun q => absurd q hb2⟩
theorem lt_md {kd rg : Int32} {js : List T5} (hg : Tg S) (hc : cn (mdC X (chk X ta) ta kd rg js S).2.2.2 < 6000) : cn (chk X ta 0 0 S).2.2.2 < 6000 := by
  have ga := (chk_fe (X := X) ta 0 0 S).tg hg
  unfold mdC at hc
  dsimp only at hc
  by_cases c0 : (chk X ta 0 0 S).2.2.2.1 7 0 = 0 ∧ ¬ 0 ≤ (chk X ta 0 0 S).1
  · have hbe : ¬ (flT (chk X ta 0 0 S).2.2.2 4 (plT X ta)).1 7 0 = 0 := flT_bad (by decide)
    simp only [if_pos c0, if_neg hbe] at hc
    exact (FE.fl (a := 4) (by decide)).lt ga hc
  · simp only [if_neg c0] at hc
    by_cases c1 : (chk X ta 0 0 S).2.2.2.1 7 0 = 0
    · simp only [if_pos c1] at hc
      exact (FE.mk.tr FE.kn).lt ga hc
    · simp only [if_neg c1] at hc
      exact hc
theorem kd_cell (hx : PI X) (hnf : 8300 ≤ nf) (hE : CkE nf X ta) (hk : xK X i = 29) (hR : RepM X T (tD 8 i e ta tb) lo hi x) (hhi : hi ≤ 8200) (hw : Wf X (tD 8 i e ta tb) false a b) (hbx : b ≤ xn X) (hX : xn X ≤ 4000) (hC : Ck (er T)) (hs : T.1 94 0 = nI s) (hss : s + (hi - lo) ≤ 8200) (hd : 6 * dpT ta + 25 ≤ d) (hUU : nU T ≤ 4000) (h0 : T.1 7 0 = 0) (hc : cn (chk X (tD 8 i e ta tb) 0 0 (er T)).2.2.2 < 6000) : wp (RR nf d 87 T [nI lo] []) (fun r _ T' => KR X (tD 8 i e ta tb) (chk X (tD 8 i e ta tb) 0 0 (er T)) T lo hi a b lo r T') := by
  rw [RepM_n] at hR
  unfold RpN at hR
  simp only [if_neg (show ¬ (8 = 1) by omega), if_neg (show ¬ (8 = 2) by omega), if_neg (show ¬ (8 = 3) by omega), if_neg (show ¬ (8 = 4) by omega), if_neg (show ¬ (8 = 5) by omega), if_neg (show ¬ (8 = 6) by omega), if_neg (show ¬ (8 = 7) by omega), if_pos (rfl : 8 = 8), if_pos hk] at hR
  obtain ⟨z, r1, r2, r3, r4, r5, r6, u, r7, r8⟩ := hR
  rw [Wf_n] at hw
  unfold WfN at hw
  simp only [if_neg (show ¬ (false = true) by decide), if_neg (show ¬ (8 = 1) by omega), if_neg (show ¬ (8 = 2) by omega), if_neg (show ¬ (8 = 3) by omega), if_neg (show ¬ (8 = 4) by omega), if_neg (show ¬ (8 = 5) by omega), if_neg (show ¬ (8 = 6) by omega), if_neg (show ¬ (8 = 7) by omega), if_pos (rfl : 8 = 8), if_pos hk] at hw
  obtain ⟨w1, c, w2, w3⟩ := hw
  have le := Wf_le2 w2
  have eN : chk X (tD 8 i e ta tb) 0 0 (er T) = mdC X (chk X ta) ta 1 (srR X (er T) (i + 1)) [] (slS X (er T) (i + 1)) := by
    rw [chk_n, if_pos (show (er T).1 7 0 = 0 from h0)]
    unfold chN clLv
    simp only [if_neg (show ¬ (8 = 1) by omega), if_neg (show ¬ (8 = 2) by omega), if_neg (show ¬ (8 = 3) by omega), if_neg (show ¬ (8 = 4) by omega), if_neg (show ¬ (8 = 5) by omega), if_neg (show ¬ (8 = 6) by omega), if_neg (show ¬ (8 = 7) by omega), if_pos (rfl : 8 = 8), if_pos hk, if_true]
  rw [eN] at hc ⊢
  obtain ⟨my, y1, y2, y3, y4, y5⟩ := RepM_nd ta _ _ _ _ z r6 w2
  have hus : usN X T u (i + 1) := r8.us (n := 0) (by omega)
  have hu4 : u < 4000 := by have := r8.1; omega
  have hRg : Rg T := hC.2.2.1.1
  have eL := us_L hus
  have eR := us_R hus
  have spL := lvS_sp hus
  have fmL : Fm X T (lvS T u) lo hi a b := Fm.lv (q := i + 1) (by omega) (by omega) hus.2
  have hcT' : cn (er T) < 6000 := ((FE.sl (X := X) (T := er T) (q := i + 1)).tr (fe_md (X := X) (ta := ta) (s := 1) (r := srR X (er T) (i + 1)) (js := []) (chk_fe (X := X) ta))).lt hC.1 hc
  have hcT : cn T < 6000 := hcT'
  have hCL : Ck (er (lvS T u)) := by rw [eL]; exact hC.sl hcT
  have uL := lvS_use (T := T) (p := u)
  have o60 : ∀ k, k ≠ 7 → k ≠ 8 → k ≠ 48 → (lvS T u).1 k = T.1 k := fun k a b c => lvS_o a b c
  rw [← eL] at hc ⊢
  have hcA := lt_md hCL.1 hc
  obtain ⟨d', rfl⟩ : ∃ g, d = g + 5 := ⟨d - 5, by omega⟩
  have wA := hE (lvS T u) (d' + 3) (lo + 1) hi _ c s z (RepM.kp r6 spL (fun j _ _ => by rw [o60 61 (by omega) (by omega) (by omega)])) hhi w2 (by omega) hCL (by rw [o60 94 (by omega) (by omega) (by omega)]; exact hs) (by omega) (by omega) (by rw [sp_nU spL]; exact hUU) hcA
  rw [y1] at wA r4
  refine kd_f (d := d' + 4) (g := 92) (by omega) (Or.inr (Or.inr (Or.inr (Or.inr (Or.inl ⟨r5, rfl⟩))))) ?_
  refine wp_mono (x_cell (P := fun r T' => ChQ X ta (lvS T u) (lo + 1) hi (i + 3) c (nI my) r T') (d := d') (by omega) (by omega) (by omega) hu4 r5 r4 r7 y4 hRg wA (fun r T' h => (ch_bh w2 (by omega) hCL hcA h.1).1) spL) ?_
  rintro r _ T' ⟨ra, T1, ⟨q1, q2, q3⟩, q4, q5⟩
  rw [eR] at q5 uL
  have sp1 : SP (lvS T u) T1 := (ch_bh w2 (by omega) hCL hcA q1).1.1
  have fm1 : Fm X T T1 lo hi a b := fmL.tr (q2.up (by omega) (by omega) (by omega) (by omega)) spL
  have fin := md_fin (X := X) (ta := ta) (S := er (lvS T u)) (js := []) (r := r) (kd := 1) (rg := srR X (er T) (i + 1)) (pl := plT X ta) (R := chk X ta 0 0 (er (lvS T u))) (Or.inl rfl) q1 q4 (fun h => by
    have := q5 h
    rw [(q3 h).1] at this
    exact this) rfl rfl
  obtain ⟨v1, v2, v3, v4⟩ := fin
  refine ⟨v1, fm1.tr (Fm.nt v2) (spL.tr sp1), fun q => ?_⟩
  obtain ⟨v5, v6, v7, v8⟩ := v4 q
  refine ⟨v6, ?_⟩
  have an := (q3 v5).2
  have l0 : (lvS T u).1 7 0 = 0 := by
    by_cases g : (lvS T u).1 7 0 = 0
    · exact g
    · exfalso
      have := (chk_fe (X := X) ta 0 0 (er (lvS T u))).2.2.2 g
      rw [← q1] at this
      exact this v5
  have u48 : T1.1 48 u = srR X (er T) (i + 1) := by
    rcases q2.2.1 u with h | ⟨q', h1, h2, h3⟩
    · rw [h]; exact uL l0
    · exfalso
      rw [spL.1 47 (by omega) rfl, hus.2] at h3
      have := hx (i + 1) q' (by omega) (by omega) h3
      omega
  rw [AnE_n]
  unfold AnN
  simp only [if_neg (show ¬ (8 = 1) by omega), if_neg (show ¬ (8 = 2) by omega), if_neg (show ¬ (8 = 3) by omega), if_neg (show ¬ (8 = 4) by omega), if_neg (show ¬ (8 = 5) by omega), if_neg (show ¬ (8 = 6) by omega), if_neg (show ¬ (8 = 7) by omega), if_pos (rfl : 8 = 8), if_pos hk]
  have spE : SP T T' := (spL.tr sp1).tr v3
  have o : ∀ (y : Int32) g m, 50 ≤ g → g ≤ 59 → (sI T' 60 lo y).1 g m = T.1 g m := fun y g m g1 g2 => by rw [sI_ne (by omega), spE.1 g (by omega) (by unfold anF; simp; omega)]
  refine ⟨nI my, _, _, _, trivial, r2, by rw [o _ 52 lo (by omega) (by omega)]; exact r4, by rw [sI_v], v7, by rw [o _ 50 lo (by omega) (by omega)]; exact r5, AnE.kp (b := c) (by omega) ta false _ c (lo + 1) hi _ _ _ _ (Nat.le_refl _) w2 ((Kp.nt v3 v2).tr (Kp.t60 (by omega))) an, u, by rw [o _ 58 lo (by omega) (by omega)]; exact r7, RepU.sp (spE.tr (SP.an rfl)) r8, ?_⟩
  rw [v8, sI_ne (g' := 48) (by omega), v2 48 rfl, u48]
  rfl
end KE
