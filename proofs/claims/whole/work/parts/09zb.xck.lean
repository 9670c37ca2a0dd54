/-! every EXPR is checked by the reference as the spec says -/
section KK
variable {nf : Nat} {X : Lx}
theorem x_ck (hx : PI X) (hX : xn X ≤ 4000) (hnf : 8300 ≤ nf) (t : Tr) : CkD nf X t ∧ CkL nf X t := by
  induction t using Tr_ind with
  | hz t hz =>
    refine ⟨?_, ls_z hz⟩
    intro T d lo hi a b s fr fl x e0 hR hhi hw
    exfalso
    unfold Wf at hw
    split at hw
    · rename_i k i e a b
      exact absurd rfl (hz k i e a b)
    · exact absurd hw.1 (by decide)
    · exact hw.elim
  | h k i e ta tb ihA ihB =>
    have eA := ckE_of hnf ihA.1
    have eB := ckE_of hnf ihB.1
    refine ⟨?_, ls_n hx hX (by omega) eA ihB.2⟩
    intro T d lo hi a b s fr fl x e0 hR hhi hw hbx hC hs hfr hss hd hUU hfl h0 hc
    have hw0 := hw
    have hR0 := hR
    rw [Wf_n] at hw
    unfold WfN at hw
    rw [if_neg (by decide)] at hw
    have h0' : (er T).1 7 0 = 0 := h0
    by_cases c : k = 1
    · subst c
      obtain ⟨d', rfl⟩ : ∃ g, d = g + 4 := ⟨d - 4, by omega⟩
      obtain ⟨m, m1, m2, m3, m4, m5⟩ := RepM_nd _ _ _ _ _ _ hR hw0
      have := kd_1 (d := d') (a := a) (b := b) hnf hR hhi hC h0 hc
      rw [this.1]
      rw [RepM_n] at hR
      unfold RpN at hR
      rw [if_pos rfl] at hR
      refine ds_lf (by omega) (by omega) (Nat.le_refl _) (by omega) ?_ this.2 (by omega) (by omega)
      have em : m = lo := nI_inj (by omega) (by omega) (m1.symm.trans this.1)
      subst em
      rw [m5]
      have t5 : tkd X (tD 1 i e ta tb) < 5 := by
        show (if xK X i = 5 then 0 else if xK X i = 27 then 1 else if xK X i = 34 then 2 else if xK X i = 35 then 3 else 4) < 5
        (repeat' split) <;> omega
      have key : ∀ n : Nat, 5 ≤ n → n < 100 → ¬ nI (tkd X (tD 1 i e ta tb)) = nI n := fun n h1 h2 h3 => by have := nI_inj (by omega) (by omega) h3; omega
      exact ⟨key 13 (by omega) (by omega), key 14 (by omega) (by omega), key 15 (by omega) (by omega), key 16 (by omega) (by omega), key 17 (by omega) (by omega)⟩
    simp only [if_neg c] at hw; clear c
    by_cases c : k = 2
    · subst c
      simp only [if_pos] at hw
      obtain ⟨c1, w1, w2, w3⟩ := hw
      have eN : chk X (tD 2 i e ta tb) 0 0 (er T) = chk X ta 0 0 (er T) := by
        rw [chk_n, if_pos h0']
        rfl
      have hRa : RepM X T ta lo hi x := hR
      have hd' : 6 * dpT ta + 19 ≤ d := by
        rw [dpT_n, if_pos (by omega)] at hd
        omega
      rw [eN] at hc
      obtain ⟨T', g, q1, q2, q3, q4, q5, q6⟩ := ihA.1 T d lo hi (a + 1) c1 s fr fl x e0 hRa hhi w2 (by omega) hC hs hfr hss hd' hUU hfl h0 hc
      refine ⟨T', g, q1, q2, q3, by rw [eN]; exact q4, q5.up (by omega) (by omega) (by omega) (by omega), fun q => ?_⟩
      rw [eN]
      exact q6 q
    simp only [if_neg c] at hw; clear c
    by_cases c : k = 3
    · subst c
      simp only [if_pos] at hw
      rw [RepM_n] at hR
      unfold RpN at hR
      simp only [if_neg (show ¬ (3 = 1) by omega), if_neg (show ¬ (3 = 2) by omega), if_pos (rfl : 3 = 3)] at hR
      obtain ⟨m, y, r1, r2, r3, r4, r5, r6, r7⟩ := hR
      rw [dpT_n, if_pos (by omega)] at hd
      rw [r1]
      refine ds_left (y := y) (s := s) hnf (Or.inl rfl) ihA.1 r3 hw.1 (by omega) hbx r2 (by omega) hhi ?_ r6 hC hs hfr hss (by omega) hUU hfl h0 hc ?_
      · by_cases g : xK X i = 49
        · rw [if_pos g] at r7; exact Or.inr (Or.inl r7.1)
        rw [if_neg g] at r7
        by_cases g2 : xK X i = 61
        · rw [if_pos g2] at r7; exact Or.inr (Or.inr (Or.inr (Or.inl r7)))
        · rw [if_neg g2] at r7; exact Or.inr (Or.inr (Or.inr (Or.inr r7.1)))
      · intro T1 p1 p2 p3 p4 p5 p6
        exact kt_3 (T := T) (S := T) hnf hR0 hhi hw0 hbx hX (by omega) p1 hC p3 p4 h0 p5 r1 r4 r6 hc
    simp only [if_neg c] at hw; clear c
    by_cases c : k = 4
    · subst c
      simp only [if_pos] at hw
      rw [RepM_n] at hR
      unfold RpN at hR
      simp only [if_neg (show ¬ (4 = 1) by omega), if_neg (show ¬ (4 = 2) by omega), if_neg (show ¬ (4 = 3) by omega), if_pos (rfl : 4 = 4)] at hR
      obtain ⟨m, y, z, r1, r2, r3, r4, r5, r6, r7, r8, r9⟩ := hR
      obtain ⟨w1, c1, w2, w3⟩ := hw
      have := Wf_le2 w2
      rw [dpT_n, if_neg (by omega), if_pos (by omega)] at hd
      rw [r1]
      refine ds_left (y := y) (s := s) hnf (Or.inr (Or.inl rfl)) ihA.1 r4 w1 (by omega) hbx r2 r3 hhi (Or.inr (Or.inr (Or.inl r9))) r7 hC hs hfr hss (by omega) hUU hfl h0 hc ?_
      intro T1 p1 p2 p3 p4 p5 p6
      exact kt_4 (T := T) (S := T) (s := s) hx hnf eB hR0 hhi hw0 hbx hX (by omega) p1 p2 hC p3 p4 h0 p5 r1 (by omega) r7 p6 hss hUU hc
    simp only [if_neg c] at hw; clear c
    by_cases c : k = 5
    · subst c
      simp only [if_pos] at hw
      rw [RepM_n] at hR
      unfold RpN at hR
      simp only [if_neg (show ¬ (5 = 1) by omega), if_neg (show ¬ (5 = 2) by omega), if_neg (show ¬ (5 = 3) by omega), if_neg (show ¬ (5 = 4) by omega), if_pos (rfl : 5 = 5)] at hR
      obtain ⟨m, y, z, r1, r2, r3, r4, r5, r6, r7, r8, r9, r10⟩ := hR
      obtain ⟨w1, w2⟩ := hw
      have := Wf_le2 w2
      rw [dpT_n, if_neg (by omega), if_pos (by omega)] at hd
      rw [r1]
      refine ds_left (y := y) (s := s) hnf (Or.inr (Or.inr rfl)) ihA.1 r4 w1 (by omega) hbx r2 r3 hhi (Or.inl r9) r7 hC hs hfr hss (by omega) hUU hfl h0 hc ?_
      intro T1 p1 p2 p3 p4 p5 p6
      exact kt_5 (T := T) (S := T) (s := s) hx hnf eB hR0 hhi hw0 hbx hX (by omega) p1 p2 hC p3 p4 h0 p5 r1 (by omega) r7 p6 hss hUU hc
    simp only [if_neg c] at hw; clear c
    by_cases c : k = 6
    · subst c
      rw [dpT_n, if_neg (by omega), if_neg (by omega)] at hd
      obtain ⟨p1, p2, p3, p4⟩ := kd_6 (d := d) (s := s) hx hX hnf ihA.2 hR hhi hw0 hbx hC hs hss (by omega) hUU h0 hc
      rw [p1]
      exact ds_lf (by omega) (by omega) (Nat.le_refl _) p2 (by rw [p3]; decide) p4 (by omega) p2
    simp only [if_neg c] at hw; clear c
    by_cases c : k = 7
    · subst c
      rw [dpT_n, if_neg (by omega), if_neg (by omega)] at hd
      obtain ⟨p1, p2, p3, p4⟩ := kd_7 (d := d) (s := s) hx hX hnf eA ihA.2 hR hhi hw0 hbx hC hs hss (by omega) hUU h0 hc
      rw [p1]
      exact ds_lf (by omega) (by omega) (Nat.le_refl _) p2 (by rcases p3 with p3 | p3 <;> rw [p3] <;> decide) p4 (by omega) p2
    simp only [if_neg c] at hw; clear c
    by_cases c : k = 8
    · subst c
      have hd1 : 6 * dpT ta + 25 ≤ d ∧ 6 * dpT tb + 25 ≤ d := by
        rw [dpT_n, if_neg (by omega), if_neg (by omega)] at hd
        omega
      obtain ⟨m, m1, m2, m3, m4, m5⟩ := RepM_nd _ _ _ _ _ _ hR hw0
      have em : x = nI lo ∧ lo < hi := by
        rw [RepM_n] at hR
        unfold RpN at hR
        simp only [if_neg (show ¬ (8 = 1) by omega), if_neg (show ¬ (8 = 2) by omega), if_neg (show ¬ (8 = 3) by omega), if_neg (show ¬ (8 = 4) by omega), if_neg (show ¬ (8 = 5) by omega), if_neg (show ¬ (8 = 6) by omega), if_neg (show ¬ (8 = 7) by omega), if_pos (rfl : 8 = 8)] at hR
        obtain ⟨z, r1, r2, _⟩ := hR
        exact ⟨r1, r2⟩
      have eml : m = lo := nI_inj (by omega) (by omega) (m1.symm.trans em.1)
      subst eml
      have t5 : tkd X (tD 8 i e ta tb) < 13 := by
        show (if xK X i = 29 then 8 else if xK X i = 30 then 9 else if xK X i = 31 then 11 else 12) < 13
        (repeat' split) <;> omega
      have key : ∀ n : Nat, 13 ≤ n → n < 100 → ¬ nI (tkd X (tD 8 i e ta tb)) = nI n := fun n h1 h2 h3 => by have := nI_inj (by omega) (by omega) h3; omega
      have nl : ¬ T.1 50 m = 13 ∧ ¬ T.1 50 m = 14 ∧ ¬ T.1 50 m = 15 ∧ ¬ T.1 50 m = 16 ∧ ¬ T.1 50 m = 17 := by
        rw [m5]
        exact ⟨key 13 (by omega) (by omega), key 14 (by omega) (by omega), key 15 (by omega) (by omega), key 16 (by omega) (by omega), key 17 (by omega) (by omega)⟩
      rw [em.1]
      refine ds_lf (by omega) (by omega) (Nat.le_refl _) em.2 nl ?_ (by omega) em.2
      by_cases g : xK X i = 29
      · exact kd_cell (s := s) hx hnf eA g hR hhi hw0 hbx hX hC hs hss (by omega) hUU h0 hc
      by_cases g2 : xK X i = 30
      · exact kd_row (s := s) hx hnf eA eB g2 hR hhi hw0 hbx hX hC hs hss (by omega) (by omega) hUU h0 hc
      by_cases g3 : xK X i = 31
      · exact kd_nn (s := s) hx hnf eA g3 hR hhi hw0 hbx hX hC hs hss (by omega) hUU h0 hc
      · exact kd_sz (s := s) hx hnf eA ⟨g, g2, g3⟩ hR hhi hw0 hbx hX hC hs hss (by omega) hUU h0 hc
    simp only [if_neg c] at hw; clear c
    by_cases c : k = 9
    · subst c
      rw [dpT_n, if_neg (by omega), if_neg (by omega)] at hd
      obtain ⟨p1, p2, p3, p4⟩ := kd_9 (d := d) (s := s) hx hnf eA hR hhi hw0 hbx hX hC hs hss (by omega) hUU h0 hc
      rw [p1]
      exact ds_lf (by omega) (by omega) (Nat.le_refl _) p2 (by rw [p3]; decide) p4 (by omega) p2
    simp only [if_neg c] at hw
theorem x_chk (hx : PI X) (hX : xn X ≤ 4000) (hnf : 8300 ≤ nf) (t : Tr) : CkE nf X t := ckE_of hnf (x_ck hx hX hnf t).1
end KK
