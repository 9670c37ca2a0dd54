/-! index and operator behind their left parts; the way along a spine -/
section KI
variable {nf d : Nat} {T T' T1 S : gSt} {X : Lx} {m n p u i k e l lo hi a b s f q v f0 c : Nat} {x y r w all z rg : Int32} {t ta tb : Tr} {nm : Int64} {R : ChR}
theorem er_ixC {t u pl pr : Int32} : (ixC (er T) t u pl pr).1 = (ixC T t u pl pr).1 ∧ (ixC (er T) t u pl pr).2 = er (ixC T t u pl pr).2 := by
  unfold ixC
  have et : ∀ g y, anF g = false → tf (er T) g y = tf T g y := fun g y hg => by unfold tf; rw [er_i hg]
  rw [er_isRo, et 67 _ rfl, er_isLv, et 68 _ rfl]
  by_cases c1 : isRo T t = 0
  · rw [if_pos c1, if_pos c1]; exact ⟨rfl, er_fl.symm⟩
  rw [if_neg c1, if_neg c1]
  by_cases c2 : isLv T (tf T 67 t) = 0
  · rw [if_pos c2, if_pos c2]; exact ⟨rfl, er_fl.symm⟩
  rw [if_neg c2, if_neg c2]
  by_cases c3 : u = 0
  · rw [if_pos c3, if_pos c3]; exact ⟨rfl, (er_w rfl).symm⟩
  · rw [if_neg c3, if_neg c3]; exact ⟨rfl, er_fl.symm⟩
theorem nt_ix {t u pl pr : Int32} : ∀ k, anF k = true → (ixC T t u pl pr).2.1 k = T.1 k := by
  intro k hk
  unfold ixC
  repeat' split
  · exact nt_fl k hk
  · exact nt_fl k hk
  · exact nt_wr (by omega) k hk
  · exact nt_fl k hk
theorem er_opC {sg l r pl pr : Int32} : (opC (er T) sg l r pl pr).1 = (opC T sg l r pl pr).1 ∧ (opC (er T) sg l r pl pr).2 = er (opC T sg l r pl pr).2 := by
  unfold opC
  have et : ∀ g y, anF g = false → tf (er T) g y = tf T g y := fun g y hg => by unfold tf; rw [er_i hg]
  rw [er_isRo, et 67 _ rfl, et 67 _ rfl, er_isLv, er_isLv, er_isPt, er_isPt, er_sameC, er_dOv, er_dOv]
  repeat' split
  all_goals first | exact ⟨rfl, rfl⟩ | exact ⟨rfl, er_fl.symm⟩
theorem nt_op {sg l r pl pr : Int32} : ∀ k, anF k = true → (opC T sg l r pl pr).2.1 k = T.1 k := by
  intro k hk
  unfold opC
  repeat' split
  all_goals first | rfl | exact nt_fl k hk
theorem kt_4 (hx : PI X) (hnf : 8300 ≤ nf) (hE : CkE nf X tb) (hR : RepM X T (tD 4 i e ta tb) lo hi x) (hhi : hi ≤ 8200) (hw : Wf X (tD 4 i e ta tb) false a b) (hbx : b ≤ xn X) (hX : xn X ≤ 4000) (hd : 6 * dpT tb + 24 ≤ d) (hsp : SP T T1) (h61 : ∀ j, m < j → T1.1 61 j = T.1 61 j) (hC : Ck (er S)) (h1 : er T1 = (chk X ta 0 0 (er S)).2.2.2) (h0 : T1.1 7 0 = 0) (hs0 : S.1 7 0 = 0) (hAn : AnE X T1 ta lo m y (chk X ta 0 0 (er S)).1 (chk X ta 0 0 (er S)).2.1 (chk X ta 0 0 (er S)).2.2.1) (hm : x = nI m) (hm8 : m < 8200) (h52 : T.1 52 m = y) (hs : T1.1 94 0 = nI s) (hss : s + (hi - lo) ≤ 8200) (hUU : nU T ≤ 4000) (hc : cn (chk X (tD 4 i e ta tb) 0 0 (er S)).2.2.2 < 6000) : wp (RR nf d 87 T1 [nI m] []) (fun r _ T' => KR X (tD 4 i e ta tb) (chk X (tD 4 i e ta tb) 0 0 (er S)) T1 lo hi a b m r T') := by
  rw [RepM_n] at hR
  unfold RpN at hR
  simp only [if_neg (show ¬ (4 = 1) by omega), if_neg (show ¬ (4 = 2) by omega), if_neg (show ¬ (4 = 3) by omega), if_pos (rfl : 4 = 4)] at hR
  obtain ⟨m2, y2, z, r1, r2, r3, r4, r5, r6, r7, r8, r9⟩ := hR
  have em : m2 = m := nI_inj (by omega) (by omega) (r1.symm.trans hm)
  subst em
  have ey : y2 = y := r7.symm.trans h52
  subst ey
  rw [Wf_n] at hw
  unfold WfN at hw
  simp only [if_neg (show ¬ (false = true) by decide), if_neg (show ¬ (4 = 1) by omega), if_neg (show ¬ (4 = 2) by omega), if_neg (show ¬ (4 = 3) by omega), if_pos (rfl : 4 = 4)] at hw
  obtain ⟨w1, c, w2, w3⟩ := hw
  have le := Wf_le2 w1
  have le2 := Wf_le2 w2
  have eN : chk X (tD 4 i e ta tb) 0 0 (er S) = exC X (chk X ta) (chk X tb) ta tb (er S) := by
    rw [chk_n, if_pos (show (er S).1 7 0 = 0 from hs0)]
    rfl
  rw [eN] at hc ⊢
  unfold exC at hc ⊢
  dsimp only at hc ⊢
  rw [← h1] at hc ⊢
  have h0' : (er T1).1 7 0 = 0 := h0
  rw [if_pos h0'] at hc ⊢
  have gS := (chk_fe (X := X) ta 0 0 (er S)).tg hC.1
  rw [← h1] at gS
  have fb := chk_fe (X := X) tb 0 0 (er T1)
  have gb := fb.tg gS
  have hcB : cn (chk X tb 0 0 (er T1)).2.2.2 < 6000 := by
    by_cases c1 : (chk X tb 0 0 (er T1)).2.2.2.1 7 0 = 0
    · rw [if_pos c1] at hc
      exact FE.ix.lt gb hc
    · rw [if_neg c1] at hc
      exact hc
  have hcA : cn (er T1) < 6000 := fb.lt gS hcB
  have iv := iv_ex0 (chk_inv ta) ⟨w1, by omega⟩ hC (by rw [← h1]; exact hcA)
  rw [← h1] at iv
  have tRa := (iv.2 h0').1
  obtain ⟨l, l1, l2, l3, l4⟩ := AnE_ty ta _ _ _ _ _ _ _ _ hAn w1
  obtain ⟨l', l1', l2', l3', l4', l5'⟩ := RepM_nd ta _ _ _ _ _ r4 w1
  have ell : l' = l := nI_inj (by omega) (by omega) (l1'.symm.trans l1)
  subst ell
  obtain ⟨mz, z1, z2, z3, z4, z5⟩ := RepM_nd tb _ _ _ _ z r5 w2
  have o : ∀ g, ¬ fE g → anF g = false → T1.1 g = T.1 g := hsp.1
  obtain ⟨d', rfl⟩ : ∃ g, d = g + 4 := ⟨d - 4, by omega⟩
  have repB : RepM X T1 tb (m2 + 1) hi z := RepM.kp r5 hsp (fun j q1 q2 => h61 j (by omega))
  have wB := hE T1 (d' + 2) (m2 + 1) hi _ c s z repB hhi w2 (by omega) iv.1 hs (by omega) (by omega) (by rw [sp_nU hsp]; exact hUU) hcB
  rw [z1] at wB
  refine kd_f (d := d' + 3) (g := 90) (by omega) (by rw [o 50 (by omega) rfl, r9]; simp) ?_
  refine wp_mono (x_ix (d := d') (P := fun r T' => ChQ X tb T1 (m2 + 1) hi (i + 1) c (nI mz) r T') (l := l') (n := mz) (s := (chk X ta 0 0 (er S)).1) (pl := plT X ta) (pr := plT X tb) (by omega) (by omega) (by omega) (by omega) (by rw [o 52 (by omega) rfl, h52]; exact l1) (by rw [o 53 (by omega) rfl, r8]; exact z1) l4 (by rw [o 51 (by omega) rfl]; exact l4') (by rw [o 51 (by omega) rfl]; exact z4) tRa wB (fun r T' h => ?_)) ?_
  · have bh := ch_bh w2 (by omega) iv.1 hcB h.1
    exact ⟨bh.1, tRa.fe (by rw [h.1]; exact fb) gS⟩
  rintro r _ T' ⟨ra, T2, ⟨q1, q2, q3⟩, q4, q5⟩
  have bh := ch_bh w2 (by omega) iv.1 hcB q1
  have sp2 := bh.1.1
  have fm2 : Fm X T1 T2 lo hi a b := q2.up (by omega) (by omega) (by omega) (by omega)
  rw [← q1] at hc ⊢
  by_cases c1 : ¬ T2.1 7 0 = 0
  · have c1' : ¬ (er T2).1 7 0 = 0 := c1
    rw [if_neg c1', q4 c1]
    exact ⟨rfl, fm2, fun q => absurd q c1⟩
  have c1 := Decidable.not_not.mp c1
  have c1' : (er T2).1 7 0 = 0 := c1
  obtain ⟨q6, q7⟩ := q5 c1
  obtain ⟨e1, an2⟩ := q3 c1
  rw [e1] at q6 q7
  rw [if_pos c1'] at hc ⊢
  have ee := er_ixC (T := T2) (t := (chk X ta 0 0 (er S)).1) (u := (chk X tb 0 0 (er T1)).1) (pl := plT X ta) (pr := plT X tb)
  have nt5 : ∀ k, anF k = true → T'.1 k = T2.1 k := fun k hk => by rw [q7]; exact nt_ix k hk
  have sp5 : SP T2 T' := by rw [q7]; exact SP.fe FE.ix
  refine ⟨by rw [q7]; exact ee.2.symm, fm2.tr (Fm.nt nt5) sp2, fun q => ⟨by rw [q6]; exact ee.1.symm, ?_⟩⟩
  rw [AnE_n]
  unfold AnN
  simp only [if_neg (show ¬ (4 = 1) by omega), if_neg (show ¬ (4 = 2) by omega), if_neg (show ¬ (4 = 3) by omega), if_pos (rfl : 4 = 4)]
  have o2 : ∀ (z : Int32) g j, 50 ≤ g → g ≤ 59 → (sI T' 60 m2 z).1 g j = T.1 g j := fun z g j g1 g2 => by rw [sI_ne (by omega), ((hsp.tr sp2).tr sp5).1 g (by omega) (by unfold anF; simp; omega)]
  have kA : Kp X T1 T2 lo m2 a i := Kp.fm hx sp2 q2 (by omega) (by omega) (by omega) (by omega)
  refine ⟨m2, y2, z, _, _, _, _, _, rfl, r2, r3, AnE.kp (b := i) (by omega) ta false _ i lo m2 _ _ _ _ (Nat.le_refl _) w1 ((kA.tr (Kp.nt sp5 nt5)).tr (Kp.t60 (by omega))) hAn, AnE.kp (b := c) (by omega) tb false _ c (m2 + 1) hi _ _ _ _ (Nat.le_refl _) w2 ((Kp.nt sp5 nt5).tr (Kp.t60 (by omega))) (by rw [z1]; exact an2), by rw [o2 _ 52 m2 (by omega) (by omega)]; exact h52, by rw [o2 _ 53 m2 (by omega) (by omega)]; exact r8, by rw [o2 _ 50 m2 (by omega) (by omega)]; exact r9, by rw [sI_v], rfl⟩
theorem kt_5 (hx : PI X) (hnf : 8300 ≤ nf) (hE : CkE nf X tb) (hR : RepM X T (tD 5 i e ta tb) lo hi x) (hhi : hi ≤ 8200) (hw : Wf X (tD 5 i e ta tb) false a b) (hbx : b ≤ xn X) (hX : xn X ≤ 4000) (hd : 6 * dpT tb + 24 ≤ d) (hsp : SP T T1) (h61 : ∀ j, m < j → T1.1 61 j = T.1 61 j) (hC : Ck (er S)) (h1 : er T1 = (chk X ta 0 0 (er S)).2.2.2) (h0 : T1.1 7 0 = 0) (hs0 : S.1 7 0 = 0) (hAn : AnE X T1 ta lo m y (chk X ta 0 0 (er S)).1 (chk X ta 0 0 (er S)).2.1 (chk X ta 0 0 (er S)).2.2.1) (hm : x = nI m) (hm8 : m < 8200) (h52 : T.1 52 m = y) (hs : T1.1 94 0 = nI s) (hss : s + (hi - lo) ≤ 8200) (hUU : nU T ≤ 4000) (hc : cn (chk X (tD 5 i e ta tb) 0 0 (er S)).2.2.2 < 6000) : wp (RR nf d 87 T1 [nI m] []) (fun r _ T' => KR X (tD 5 i e ta tb) (chk X (tD 5 i e ta tb) 0 0 (er S)) T1 lo hi a b m r T') := by
  rw [RepM_n] at hR
  unfold RpN at hR
  simp only [if_neg (show ¬ (5 = 1) by omega), if_neg (show ¬ (5 = 2) by omega), if_neg (show ¬ (5 = 3) by omega), if_neg (show ¬ (5 = 4) by omega), if_pos (rfl : 5 = 5)] at hR
  obtain ⟨m2, y2, z, r1, r2, r3, r4, r5, r6, r7, r8, r9, r10⟩ := hR
  have em : m2 = m := nI_inj (by omega) (by omega) (r1.symm.trans hm)
  subst em
  have ey : y2 = y := r7.symm.trans h52
  subst ey
  rw [Wf_n] at hw
  unfold WfN at hw
  simp only [if_neg (show ¬ (false = true) by decide), if_neg (show ¬ (5 = 1) by omega), if_neg (show ¬ (5 = 2) by omega), if_neg (show ¬ (5 = 3) by omega), if_neg (show ¬ (5 = 4) by omega), if_pos (rfl : 5 = 5)] at hw
  obtain ⟨w1, w2⟩ := hw
  have le := Wf_le2 w1
  have le2 := Wf_le2 w2
  have eN : chk X (tD 5 i e ta tb) 0 0 (er S) = bnC X (chk X ta) (chk X tb) ta tb (chK e) (er S) := by
    rw [chk_n, if_pos (show (er S).1 7 0 = 0 from hs0)]
    rfl
  rw [eN] at hc ⊢
  unfold bnC at hc ⊢
  dsimp only at hc ⊢
  rw [← h1] at hc ⊢
  have h0' : (er T1).1 7 0 = 0 := h0
  rw [if_pos h0'] at hc ⊢
  have gS := (chk_fe (X := X) ta 0 0 (er S)).tg hC.1
  rw [← h1] at gS
  have fb := chk_fe (X := X) tb 0 0 (er T1)
  have gb := fb.tg gS
  have hcB : cn (chk X tb 0 0 (er T1)).2.2.2 < 6000 := by
    by_cases c1 : (chk X tb 0 0 (er T1)).2.2.2.1 7 0 = 0
    · rw [if_pos c1] at hc
      exact FE.op.lt gb hc
    · rw [if_neg c1] at hc
      exact hc
  have hcA : cn (er T1) < 6000 := fb.lt gS hcB
  have iv := iv_ex0 (chk_inv ta) ⟨w1, by omega⟩ hC (by rw [← h1]; exact hcA)
  rw [← h1] at iv
  have tRa := (iv.2 h0').1
  obtain ⟨l, l1, l2, l3, l4⟩ := AnE_ty ta _ _ _ _ _ _ _ _ hAn w1
  obtain ⟨l', l1', l2', l3', l4', l5'⟩ := RepM_nd ta _ _ _ _ _ r4 w1
  have ell : l' = l := nI_inj (by omega) (by omega) (l1'.symm.trans l1)
  subst ell
  obtain ⟨mz, z1, z2, z3, z4, z5⟩ := RepM_nd tb _ _ _ _ z r5 w2
  have o : ∀ g, ¬ fE g → anF g = false → T1.1 g = T.1 g := hsp.1
  obtain ⟨d', rfl⟩ : ∃ g, d = g + 5 := ⟨d - 5, by omega⟩
  have repB : RepM X T1 tb (m2 + 1) hi z := RepM.kp r5 hsp (fun j q1 q2 => h61 j (by omega))
  have wB := hE T1 (d' + 3) (m2 + 1) hi _ b s z repB hhi w2 (by omega) iv.1 hs (by omega) (by omega) (by rw [sp_nU hsp]; exact hUU) hcB
  rw [z1] at wB
  refine kd_f (d := d' + 4) (g := 96) (by omega) (by rw [o 50 (by omega) rfl, r9]; simp) ?_
  refine wp_mono (x_op (d := d') (P := fun r T' => ChQ X tb T1 (m2 + 1) hi (i + 1) b (nI mz) r T') (l := l') (n := mz) (s := (chk X ta 0 0 (er S)).1) (sg := chK e) (pl := plT X ta) (pr := plT X tb) (by omega) (by omega) (by omega) (by omega) (by rw [o 52 (by omega) rfl, h52]; exact l1) (by rw [o 53 (by omega) rfl, r8]; exact z1) (by rw [o 54 (by omega) rfl]; exact r10) l4 (by rw [o 51 (by omega) rfl]; exact l4') (by rw [o 51 (by omega) rfl]; exact z4) wB (fun r T' h => ?_)) ?_
  · have bh := ch_bh w2 (by omega) iv.1 hcB h.1
    refine ⟨bh.1, tRa.fe (by rw [h.1]; exact fb) gS, fun q => ?_⟩
    rw [(h.2.2 q).1]
    exact (bh.2 q).1
  rintro r _ T' ⟨ra, T2, ⟨q1, q2, q3⟩, q4, q5⟩
  have bh := ch_bh w2 (by omega) iv.1 hcB q1
  have sp2 := bh.1.1
  have fm2 : Fm X T1 T2 lo hi a b := q2.up (by omega) (by omega) (by omega) (by omega)
  rw [← q1] at hc ⊢
  by_cases c1 : ¬ T2.1 7 0 = 0
  · have c1' : ¬ (er T2).1 7 0 = 0 := c1
    rw [if_neg c1', q4 c1]
    exact ⟨rfl, fm2, fun q => absurd q c1⟩
  have c1 := Decidable.not_not.mp c1
  have c1' : (er T2).1 7 0 = 0 := c1
  obtain ⟨q6, q7⟩ := q5 c1
  obtain ⟨e1, an2⟩ := q3 c1
  rw [e1] at q6 q7
  rw [if_pos c1'] at hc ⊢
  have ee := er_opC (T := T2) (sg := chK e) (l := (chk X ta 0 0 (er S)).1) (r := (chk X tb 0 0 (er T1)).1) (pl := plT X ta) (pr := plT X tb)
  have nt5 : ∀ k, anF k = true → T'.1 k = T2.1 k := fun k hk => by rw [q7]; exact nt_op k hk
  have sp5 : SP T2 T' := by rw [q7]; exact SP.fe FE.op
  refine ⟨by rw [q7]; exact ee.2.symm, fm2.tr (Fm.nt nt5) sp2, fun q => ⟨by rw [q6]; exact ee.1.symm, ?_⟩⟩
  rw [AnE_n]
  unfold AnN
  simp only [if_neg (show ¬ (5 = 1) by omega), if_neg (show ¬ (5 = 2) by omega), if_neg (show ¬ (5 = 3) by omega), if_neg (show ¬ (5 = 4) by omega), if_pos (rfl : 5 = 5)]
  have o2 : ∀ (z : Int32) g j, 50 ≤ g → g ≤ 59 → (sI T' 60 m2 z).1 g j = T.1 g j := fun z g j g1 g2 => by rw [sI_ne (by omega), ((hsp.tr sp2).tr sp5).1 g (by omega) (by unfold anF; simp; omega)]
  have kA : Kp X T1 T2 lo m2 a i := Kp.fm hx sp2 q2 (by omega) (by omega) (by omega) (by omega)
  refine ⟨m2, y2, z, _, _, _, _, _, rfl, r2, r3, AnE.kp (b := i) (by omega) ta false _ i lo m2 _ _ _ _ (Nat.le_refl _) w1 ((kA.tr (Kp.nt sp5 nt5)).tr (Kp.t60 (by omega))) hAn, AnE.kp (b := b) (by omega) tb false _ b (m2 + 1) hi _ _ _ _ (Nat.le_refl _) w2 ((Kp.nt sp5 nt5).tr (Kp.t60 (by omega))) (by rw [z1]; exact an2), by rw [o2 _ 52 m2 (by omega) (by omega)]; exact h52, by rw [o2 _ 53 m2 (by omega) (by omega)]; exact r8, by rw [o2 _ 50 m2 (by omega) (by omega)]; exact r9, by rw [o2 _ 54 m2 (by omega) (by omega)]; exact r10, by rw [sI_v], rfl⟩
end KI
