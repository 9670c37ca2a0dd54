/-! & as a node; what follows a PRIMARY; operators -/
section KH
variable {nf d : Nat} {T T' T1 S : gSt} {X : Lx} {m n p u i k e l lo hi a b s f q v f0 c : Nat} {x y r w all z rg : Int32} {t ta tb : Tr} {nm : Int64} {R : ChR}
theorem AnE_ty (t : Tr) : ∀ (lo hi a b : Nat) (x ty tl : Int32) (js : List T5), AnE X T t lo hi x ty tl js → Wf X t false a b → ∃ m, x = nI m ∧ lo ≤ m ∧ m < hi ∧ T.1 60 m = ty := by
  induction t using Tr_ind with
  | hz t hz =>
    intro lo hi a b x ty tl js h hw
    unfold Wf at hw
    split at hw
    · rename_i k i e a b
      exact absurd rfl (hz k i e a b)
    · exact absurd hw.1 (by decide)
    · exact hw.elim
  | h k i e ta tb ihA ihB =>
    intro lo hi a b x ty tl js h hw
    rw [AnE_n] at h
    rw [Wf_n] at hw
    unfold WfN at hw
    rw [if_neg (by decide)] at hw
    unfold AnN at h
    by_cases c : k = 1
    · simp only [if_pos c] at h
      exact ⟨lo, h.1, Nat.le_refl _, h.2.1, h.2.2.1.symm⟩
    simp only [if_neg c] at h hw; clear c
    by_cases c : k = 2
    · simp only [if_pos c] at h hw
      obtain ⟨c1, e1, e2, e3⟩ := hw
      exact ihA _ _ _ _ _ _ _ _ h e2
    simp only [if_neg c] at h hw; clear c
    by_cases c : k = 3
    · simp only [if_pos c] at h
      obtain ⟨m, y, t0, l0, r1, r2, r3, r4, r5, r6, r7⟩ := h
      exact ⟨m, r1, r2, by omega, r6.symm⟩
    simp only [if_neg c] at h hw; clear c
    by_cases c : k = 4
    · simp only [if_pos c] at h
      obtain ⟨m, y, z, t0, l0, u1, u2, l2, r1, r2, r3, r4, r5, r6, r7, r8, r9, r10⟩ := h
      exact ⟨m, r1, r2, r3, r9.symm⟩
    simp only [if_neg c] at h hw; clear c
    by_cases c : k = 5
    · simp only [if_pos c] at h
      obtain ⟨m, y, z, t0, l0, u1, u2, l2, r1, r2, r3, r4, r5, r6, r7, r8, r9, r10, r11⟩ := h
      exact ⟨m, r1, r2, r3, r10.symm⟩
    simp only [if_neg c] at h hw; clear c
    by_cases c : k = 6
    · simp only [if_pos c] at h
      obtain ⟨u, z, l0, w', r1, r2, r3, r4, r5, r6, r7, r8, r9, r10, r11⟩ := h
      exact ⟨lo, r1, Nat.le_refl _, r2, r9.symm⟩
    simp only [if_neg c] at h hw; clear c
    by_cases c : k = 7
    · simp only [if_pos c] at h
      obtain ⟨v, z, t0, u0, l0, r1, r2, r3, r4, r5, r6, r7⟩ := h
      exact ⟨lo, r1, Nat.le_refl _, r2, r5.symm⟩
    simp only [if_neg c] at h hw; clear c
    by_cases c : k = 8
    · simp only [if_pos c] at h
      obtain ⟨z, t0, u0, l0, r1, r2, r3, r4, r5, r6⟩ := h
      exact ⟨lo, r1, Nat.le_refl _, r2, r4.symm⟩
    simp only [if_neg c] at h hw; clear c
    by_cases c : k = 9
    · simp only [if_pos c] at h
      obtain ⟨z, t0, u0, l0, r1, r2, r3, r4, r5, r6, r7, r8⟩ := h
      exact ⟨lo, r1, Nat.le_refl _, r2, r5.symm⟩
    simp only [if_neg c] at hw
theorem tkd_lt (t : Tr) : tkd X t < 100 := by
  induction t using Tr_ind with
  | hz t hz =>
    unfold tkd
    split
    · rename_i k i e a b
      exact absurd rfl (hz k i e a b)
    · omega
  | h k i e ta tb ihA ihB =>
    have key : tkd X (tD k i e ta tb) = if k = 2 then tkd X ta else if k = 1 then (if xK X i = 5 then 0 else if xK X i = 27 then 1 else if xK X i = 34 then 2 else if xK X i = 35 then 3 else 4) else if k = 3 then (if xK X i = 49 then 14 else if xK X i = 61 then 16 else 17) else if k = 4 then 15 else if k = 5 then 13 else if k = 6 then 5 else if k = 7 then (if xK X (i + 3 + e) = 49 then 7 else 6) else if k = 8 then (if xK X i = 29 then 8 else if xK X i = 30 then 9 else if xK X i = 31 then 11 else 12) else if k = 9 then 10 else 30 := rfl
    rw [key]
    (repeat' split) <;> omega
theorem AnE_lf (t : Tr) : ∀ (lo hi a b : Nat) (x ty tl : Int32) (js : List T5), AnE X T t lo hi x ty tl js → Wf X t false a b → (tkd X t = 14 ∨ tkd X t = 15) → ∃ m l, x = nI m ∧ m < hi ∧ T.1 52 m = nI l ∧ lo ≤ l ∧ l < hi ∧ T.1 60 l = tl := by
  induction t using Tr_ind with
  | hz t hz =>
    intro lo hi a b x ty tl js h hw
    unfold Wf at hw
    split at hw
    · rename_i k i e a b
      exact absurd rfl (hz k i e a b)
    · exact absurd hw.1 (by decide)
    · exact hw.elim
  | h k i e ta tb ihA ihB =>
    intro lo hi a b x ty tl js h hw ht
    rw [AnE_n] at h
    rw [Wf_n] at hw
    unfold WfN at hw
    rw [if_neg (by decide)] at hw
    unfold AnN at h
    by_cases c1 : k = 1
    · subst c1
      exfalso
      have : tkd X (tD 1 i e ta tb) < 5 := by
        show (if xK X i = 5 then 0 else if xK X i = 27 then 1 else if xK X i = 34 then 2 else if xK X i = 35 then 3 else 4) < 5
        (repeat' split) <;> omega
      omega
    simp only [if_neg c1] at h hw
    by_cases c2 : k = 2
    · subst c2
      simp only [if_pos] at h hw
      obtain ⟨c9, e1, e2, e3⟩ := hw
      exact ihA _ _ _ _ _ _ _ _ h e2 ht
    simp only [if_neg c2] at h hw
    by_cases c3 : k = 3
    · simp only [if_pos c3] at h hw
      obtain ⟨m, y, t0, l0, r1, r2, r3, r4, r5, r6, r7⟩ := h
      obtain ⟨l, l1, l2, l3, l4⟩ := AnE_ty ta _ _ _ _ _ _ _ _ r4 hw.1
      exact ⟨m, l, r1, by omega, r5.trans l1, l2, by omega, l4⟩
    simp only [if_neg c3] at h hw
    by_cases c4 : k = 4
    · simp only [if_pos c4] at h hw
      obtain ⟨m, y, z, t0, l0, u1, u2, l2', r1, r2, r3, r4, r5, r6, r7, r8, r9, r10⟩ := h
      obtain ⟨l, l1, l2, l3, l4⟩ := AnE_ty ta _ _ _ _ _ _ _ _ r4 hw.1
      exact ⟨m, l, r1, by omega, r6.trans l1, l2, by omega, l4⟩
    exfalso
    have key : tkd X (tD k i e ta tb) = if k = 2 then tkd X ta else if k = 1 then (if xK X i = 5 then 0 else if xK X i = 27 then 1 else if xK X i = 34 then 2 else if xK X i = 35 then 3 else 4) else if k = 3 then (if xK X i = 49 then 14 else if xK X i = 61 then 16 else 17) else if k = 4 then 15 else if k = 5 then 13 else if k = 6 then 5 else if k = 7 then (if xK X (i + 3 + e) = 49 then 7 else 6) else if k = 8 then (if xK X i = 29 then 8 else if xK X i = 30 then 9 else if xK X i = 31 then 11 else 12) else if k = 9 then 10 else 30 := rfl
    rw [key, if_neg c2, if_neg c1, if_neg c3, if_neg c4] at ht
    revert ht
    (repeat' split) <;> omega
/-- & -/
theorem kd_9 (hx : PI X) (hnf : 8300 ≤ nf) (hE : CkE nf X ta) (hR : RepM X T (tD 9 i e ta tb) lo hi x) (hhi : hi ≤ 8200) (hw : Wf X (tD 9 i e ta tb) false a b) (hbx : b ≤ xn X) (hX : xn X ≤ 4000) (hC : Ck (er T)) (hs : T.1 94 0 = nI s) (hss : s + (hi - lo) ≤ 8200) (hd : 6 * dpT ta + 25 ≤ d) (hUU : nU T ≤ 4000) (h0 : T.1 7 0 = 0) (hc : cn (chk X (tD 9 i e ta tb) 0 0 (er T)).2.2.2 < 6000) : x = nI lo ∧ lo < hi ∧ T.1 50 lo = 10 ∧ wp (RR nf d 87 T [nI lo] []) (fun r _ T' => KR X (tD 9 i e ta tb) (chk X (tD 9 i e ta tb) 0 0 (er T)) T lo hi a b lo r T') := by
  rw [RepM_n] at hR
  unfold RpN at hR
  simp only [if_neg (show ¬ (9 = 1) by omega), if_neg (show ¬ (9 = 2) by omega), if_neg (show ¬ (9 = 3) by omega), if_neg (show ¬ (9 = 4) by omega), if_neg (show ¬ (9 = 5) by omega), if_neg (show ¬ (9 = 6) by omega), if_neg (show ¬ (9 = 7) by omega), if_neg (show ¬ (9 = 8) by omega), if_pos (rfl : 9 = 9)] at hR
  obtain ⟨z, r1, r2, r3, r4, r5, r6⟩ := hR
  rw [Wf_n] at hw
  unfold WfN at hw
  simp only [if_neg (show ¬ (false = true) by decide), if_neg (show ¬ (9 = 1) by omega), if_neg (show ¬ (9 = 2) by omega), if_neg (show ¬ (9 = 3) by omega), if_neg (show ¬ (9 = 4) by omega), if_neg (show ¬ (9 = 5) by omega), if_neg (show ¬ (9 = 6) by omega), if_neg (show ¬ (9 = 7) by omega), if_neg (show ¬ (9 = 8) by omega), if_pos (rfl : 9 = 9)] at hw
  obtain ⟨w1, w2⟩ := hw
  refine ⟨r1, r2, r5, ?_⟩
  have eN : chk X (tD 9 i e ta tb) 0 0 (er T) = anC X (chk X ta) ta (er T) := by
    rw [chk_n, if_pos (show (er T).1 7 0 = 0 from h0)]
    rfl
  rw [eN] at hc ⊢
  obtain ⟨my, y1, y2, y3, y4, y5⟩ := RepM_nd ta _ _ _ _ z r6 w2
  have fa := chk_fe (X := X) ta 0 0 (er T)
  have ga := fa.tg hC.1
  rw [y1] at r4
  obtain ⟨d', rfl⟩ : ∃ g, d = g + 5 := ⟨d - 5, by omega⟩
  refine kd_f (d := d' + 4) (g := 91) (by omega) (Or.inr (Or.inr (Or.inr (Or.inr (Or.inr (Or.inr (Or.inl ⟨r5, rfl⟩))))))) ?_
  have tk : ∀ k : Nat, k < 100 → (T.1 50 my = nI k ↔ tkd X ta = k) := by
    intro k hk
    have t30 : tkd X ta < 100 := tkd_lt ta
    rw [y5]
    exact ⟨fun h => nI_inj (by omega) (by omega) h, fun h => by rw [h]⟩
  unfold anC at hc ⊢
  dsimp only at hc ⊢
  by_cases k1 : ¬ (tkd X ta = 14 ∨ tkd X ta = 15)
  · rw [if_neg k1]
    have h50 : ¬ T.1 50 my = 14 ∧ ¬ T.1 50 my = 15 := ⟨fun h => k1 (Or.inl ((tk 14 (by omega)).mp h)), fun h => k1 (Or.inr ((tk 15 (by omega)).mp h))⟩
    have hb : ¬ (flT T 4 (plT X ta)).1 7 0 = 0 := flT_bad (by decide)
    exact ⟨_, _, _, x_an0 (by omega) (by omega) r4 h50 y4, er_fl, Fm.nt nt_fl, fun q => absurd q hb⟩
  have k1 := Decidable.not_not.mp k1
  rw [if_pos k1] at hc ⊢
  have hcA : cn (chk X ta 0 0 (er T)).2.2.2 < 6000 := by
    by_cases c1 : (chk X ta 0 0 (er T)).2.2.2.1 7 0 = 0
    · rw [if_pos c1] at hc
      by_cases c2 : tkd X ta = 14 ∧ (chk X ta 0 0 (er T)).2.2.2.1 12 (tf (chk X ta 0 0 (er T)).2.2.2 69 (chk X ta 0 0 (er T)).2.1).toNatClampNeg = 1
      · rw [if_pos c2] at hc
        exact (FE.fl (a := 4) (by decide)).lt ga hc
      · rw [if_neg c2] at hc
        exact FE.kn.lt ga hc
    · rw [if_neg c1] at hc
      exact hc
  have wA := hE T (d' + 3) (lo + 1) hi _ b s z r6 hhi w2 hbx hC hs (by omega) (by omega) hUU hcA
  rw [y1] at wA
  refine wp_mono (x_an (d := d') (P := fun r T' => ChQ X ta T (lo + 1) hi (a + 1) b (nI my) r T') (tl := (chk X ta 0 0 (er T)).2.1) (kd := T.1 50 my) (by omega) (by omega) (by omega) r4 rfl (k1.elim (fun h => Or.inl ((tk 14 (by omega)).mpr h)) (fun h => Or.inr ((tk 15 (by omega)).mpr h))) y4 wA (fun r T' h => ?_)) ?_
  · have bh := ch_bh w2 (by omega) hC hcA h.1
    refine ⟨bh.1, fun q => ?_⟩
    obtain ⟨p, p1, p2, p3, p4, p5⟩ := (bh.2 q).2 k1
    obtain ⟨m', l, l1, l1b, l2, l3, l4, l5⟩ := AnE_lf ta _ _ _ _ _ _ _ _ (h.2.2 q).2 w2 k1
    have em : my = m' := nI_inj (by omega) (by omega) l1
    subst em
    refine ⟨⟨l, l2, by omega, l5⟩, p, p1, p2, ?_, fun hk => ?_⟩
    · rw [← h.1] at p3; exact p3
    · have := p4 ((tk 14 (by omega)).mp hk)
      rw [← h.1] at this
      exact this
  rintro r _ T' ⟨ra, T1, ⟨q1, q2, q3⟩, q4, q5⟩
  have bh := ch_bh w2 (by omega) hC hcA q1
  have sp1 := bh.1.1
  have fm1 : Fm X T T1 lo hi a b := q2.up (by omega) (by omega) (by omega) (by omega)
  rw [← q1] at hc ⊢
  by_cases c1 : ¬ T1.1 7 0 = 0
  · have c1' : ¬ (er T1).1 7 0 = 0 := c1
    rw [if_neg c1']
    rw [q4 c1]
    exact ⟨rfl, fm1, fun q => absurd q c1⟩
  have c1 := Decidable.not_not.mp c1
  have c1' : (er T1).1 7 0 = 0 := c1
  obtain ⟨q6, q7⟩ := q5 c1
  obtain ⟨e1, an⟩ := q3 c1
  rw [e1] at q6 q7
  rw [if_pos c1'] at hc ⊢
  have et : ∀ g y, anF g = false → tf (er T1) g y = tf T1 g y := fun g y hg => by unfold tf; rw [er_i hg]
  have e12 : (er T1).1 12 = T1.1 12 := rfl
  rw [et 69 _ rfl, et 67 _ rfl, e12] at hc ⊢
  unfold anT at q6 q7
  by_cases c2 : tkd X ta = 14 ∧ T1.1 12 (tf T1 69 (chk X ta 0 0 (er T)).2.1).toNatClampNeg = 1
  · have c2' : T.1 50 my = 14 ∧ T1.1 12 (tf T1 69 (chk X ta 0 0 (er T)).2.1).toNatClampNeg = 1 := ⟨(tk 14 (by omega)).mpr c2.1, c2.2⟩
    rw [if_pos c2] at hc ⊢
    rw [if_pos c2'] at q6 q7
    have hb : ¬ T'.1 7 0 = 0 := by rw [q7]; exact flT_bad (by decide)
    exact ⟨by rw [q7]; exact er_fl, by rw [q7]; exact fm1.tr (Fm.nt nt_fl) sp1, fun q => absurd q hb⟩
  · have c2' : ¬ (T.1 50 my = 14 ∧ T1.1 12 (tf T1 69 (chk X ta 0 0 (er T)).2.1).toNatClampNeg = 1) := fun q => c2 ⟨(tk 14 (by omega)).mp q.1, q.2⟩
    rw [if_neg c2] at hc ⊢
    rw [if_neg c2'] at q6 q7
    have nt5 : ∀ k, anF k = true → T'.1 k = T1.1 k := fun k hk => by rw [q7]; exact nt_kn k hk
    have sp5 : SP T1 T' := by rw [q7]; exact SP.fe FE.kn
    refine ⟨by rw [q7]; exact er_knS, fm1.tr (Fm.nt nt5) sp1, fun q => ⟨by rw [q6 q]; exact er_knR.symm, ?_⟩⟩
    rw [AnE_n]
    unfold AnN
    simp only [if_neg (show ¬ (9 = 1) by omega), if_neg (show ¬ (9 = 2) by omega), if_neg (show ¬ (9 = 3) by omega), if_neg (show ¬ (9 = 4) by omega), if_neg (show ¬ (9 = 5) by omega), if_neg (show ¬ (9 = 6) by omega), if_neg (show ¬ (9 = 7) by omega), if_neg (show ¬ (9 = 8) by omega), if_pos (rfl : 9 = 9)]
    have o : ∀ (y : Int32) g m, 50 ≤ g → g ≤ 59 → (sI T' 60 lo y).1 g m = T.1 g m := fun y g m g1 g2 => by rw [sI_ne (by omega), (sp1.tr sp5).1 g (by omega) (by unfold anF; simp; omega)]
    exact ⟨nI my, _, _, _, trivial, r2, by rw [o _ 52 lo (by omega) (by omega)]; exact r4, by rw [o _ 50 lo (by omega) (by omega)]; exact r5, by rw [sI_v], trivial, AnE.kp (b := b) (by omega) ta false _ b (lo + 1) hi _ _ _ _ (Nat.le_refl _) w2 ((Kp.nt sp5 nt5).tr (Kp.t60 (by omega))) an, rfl⟩
theorem th_16 {pl pn : Int32} : (thC T 16 y nm pl pn).2.1 = 0 := by
  unfold thC
  by_cases c1 : thOk T 16 y = true
  · rw [if_pos c1]
    by_cases c2 : isLv T (tf T 67 y) = 0
    · rw [if_pos c2]
    · rw [if_neg c2, if_pos rfl]
  · rw [if_neg c1]
/-- behind a checked left part: . ^ is -/
theorem kt_3 (hnf : 8300 ≤ nf) (hR : RepM X T (tD 3 i e ta tb) lo hi x) (hhi : hi ≤ 8200) (hw : Wf X (tD 3 i e ta tb) false a b) (hbx : b ≤ xn X) (hX : xn X ≤ 4000) (hd : 12 ≤ d) (hsp : SP T T1) (hC : Ck (er S)) (h1 : er T1 = (chk X ta 0 0 (er S)).2.2.2) (h0 : T1.1 7 0 = 0) (hs0 : S.1 7 0 = 0) (hAn : AnE X T1 ta lo m y (chk X ta 0 0 (er S)).1 (chk X ta 0 0 (er S)).2.1 (chk X ta 0 0 (er S)).2.2.1) (hm : x = nI m) (hmm : hi = m + 1) (h52 : T.1 52 m = y) (hc : cn (chk X (tD 3 i e ta tb) 0 0 (er S)).2.2.2 < 6000) : wp (RR nf d 87 T1 [nI m] []) (fun r _ T' => KR X (tD 3 i e ta tb) (chk X (tD 3 i e ta tb) 0 0 (er S)) T1 lo hi a b m r T') := by
  rw [RepM_n] at hR
  unfold RpN at hR
  simp only [if_neg (show ¬ (3 = 1) by omega), if_neg (show ¬ (3 = 2) by omega), if_pos (rfl : 3 = 3)] at hR
  obtain ⟨m2, y2, r1, r2, r3, r4, r5, r6, r7⟩ := hR
  have em : m2 = m := by omega
  subst em
  have ey : y2 = y := r6.symm.trans h52
  subst ey
  rw [Wf_n] at hw
  unfold WfN at hw
  simp only [if_neg (show ¬ (false = true) by decide), if_neg (show ¬ (3 = 1) by omega), if_neg (show ¬ (3 = 2) by omega), if_pos (rfl : 3 = 3)] at hw
  obtain ⟨w1, w2⟩ := hw
  have le := Wf_le2 w1
  have eN : chk X (tD 3 i e ta tb) 0 0 (er S) = tlC X (chk X ta) ta i (er S) := by
    rw [chk_n, if_pos (show (er S).1 7 0 = 0 from hs0)]
    rfl
  rw [eN] at hc ⊢
  unfold tlC at hc ⊢
  dsimp only at hc ⊢
  rw [← h1] at hc ⊢
  have h0' : (er T1).1 7 0 = 0 := h0
  rw [if_pos h0'] at hc ⊢
  dsimp only at hc ⊢
  have gS := (chk_fe (X := X) ta 0 0 (er S)).tg hC.1
  rw [← h1] at gS
  have hcA : cn (er T1) < 6000 := (FE.th (T := er T1) (r := tlK X i) (s := (chk X ta 0 0 (er S)).1) (nm := xN X (i + 1)) (x := plT X ta) (y := nI (xP X (i + 1)))).lt gS hc
  have iv := iv_ex0 (chk_inv ta) ⟨w1, by omega⟩ hC (by rw [← h1]; exact hcA)
  rw [← h1] at iv
  have tRa := (iv.2 h0').1
  obtain ⟨l, l1, l2, l3, l4⟩ := AnE_ty ta _ _ _ _ _ _ _ _ hAn w1
  obtain ⟨l', l1', l2', l3', l4', l5'⟩ := RepM_nd ta _ _ _ _ _ r3 w1
  have ell : l' = l := nI_inj (by omega) (by omega) (l1'.symm.trans l1)
  subst ell
  have o : ∀ g, ¬ fE g → anF g = false → T1.1 g = T.1 g := hsp.1
  obtain ⟨d', rfl⟩ : ∃ g, d = g + 12 := ⟨d - 12, by omega⟩
  have k50 : T1.1 50 m2 = tlK X i ∧ (tlK X i = 14 ∨ tlK X i = 16 ∨ tlK X i = 17) ∧ (tlK X i ≠ 16 → T1.2 56 m2 = xN X (i + 1) ∧ T1.1 57 m2 = nI (xP X (i + 1))) := by
    unfold tlK
    rw [o 50 (by omega) rfl, o 57 (by omega) rfl, hsp.2]
    by_cases c : xK X i = 49
    · simp only [if_pos c] at r7 ⊢
      exact ⟨r7.1, by simp, fun _ => r7.2⟩
    simp only [if_neg c] at r7 ⊢
    by_cases c : xK X i = 61
    · simp only [if_pos c] at r7 ⊢
      exact ⟨r7, by simp, fun q => absurd rfl q⟩
    simp only [if_neg c] at r7 ⊢
    exact ⟨r7.1, by simp, fun _ => r7.2⟩
  obtain ⟨k1, k2, k3⟩ := k50
  refine kd_f (d := d' + 11) (g := 89) (by omega) (by
    rw [k1]
    rcases k2 with h | h | h <;> rw [h] <;> simp) ?_
  refine wp_mono (x_th (d := d') (kd := tlK X i) (s := (chk X ta 0 0 (er S)).1) (nm := xN X (i + 1)) (pl := plT X ta) (pn := nI (xP X (i + 1))) iv.1 (by omega) (by omega) (by omega) k1 k2 (by rw [o 52 (by omega) rfl, h52]; exact l1) l4 (by rw [o 51 (by omega) rfl]; exact l4') k3 tRa h0 hc) ?_
  rintro r _ T' ⟨q1, q2, q3⟩
  have fe : FE (er T1) (er T') := by rw [q1]; exact FE.th
  have sp := SP.of fe
  refine ⟨q1, Fm.a1 q2 (by omega) (by omega), fun q => ⟨(q3 q).1, ?_⟩⟩
  rw [AnE_n]
  unfold AnN
  simp only [if_neg (show ¬ (3 = 1) by omega), if_neg (show ¬ (3 = 2) by omega), if_pos (rfl : 3 = 3)]
  have o2 : ∀ (z : Int32) g j, 50 ≤ g → g ≤ 59 → (sI T' 60 m2 z).1 g j = T.1 g j := fun z g j g1 g2 => by rw [sI_ne (by omega), (hsp.tr sp).1 g (by omega) (by unfold anF; simp; omega)]
  refine ⟨m2, y2, _, _, rfl, r2, hmm, AnE.kp (b := i) (by omega) ta false _ i lo m2 _ _ _ _ (Nat.le_refl _) w1 ((Kp.a1 sp q2 (by omega)).tr (Kp.t60 (by omega))) hAn, by rw [o2 _ 52 m2 (by omega) (by omega)]; exact h52, by rw [sI_v], ?_⟩
  rw [o2 _ 50 m2 (by omega) (by omega), sI_ne (g' := 61) (by omega)]
  have f61 := (q3 q).2
  unfold tlK at f61 q1 ⊢
  by_cases c : xK X i = 49
  · simp only [if_pos c] at r7 f61 ⊢
    exact ⟨r7.1, by rw [f61 (by decide)]⟩
  simp only [if_neg c] at r7 f61 ⊢
  by_cases c2 : xK X i = 61
  · simp only [if_pos c2] at r7 f61 ⊢
    refine ⟨r7, ?_⟩
    rw [th_16]
  simp only [if_neg c2] at r7 f61 ⊢
  exact ⟨r7.1, by rw [f61 (by decide)]⟩
end KH
