section QX
variable {nf d : Nat} {T T0 T1 T2 : gSt} {X : Lx} {e B i m n : Nat}
set_option maxHeartbeats 8000000 in
theorem x_prim (hX : LX X) (hnf : 5000 ≤ nf) (hm : m ≤ 20) (hE : ∀ D, d + 5 ≤ D → IHE X nf m D) (hT : ∀ D, d + 5 ≤ D → 0 < m → IHT X nf m D) (hG : Gd X T i) (hb : nN T ≤ 2 * i) : wp (RR nf (d + 9) 38 T [nI (20 - m)] []) (fun r _ T' => EQ X T i (m + 1) (pPrim (xK X) (pEx (xK X) m) i) r T') := by
  have hx := hX.1
  have hi0 := hG.1.1
  have hb1 : nN T < 8200 := by omega
  have hnA : inb (nI (nN T)) 8200 := nin (by omega) (by omega)
  have ep : nI (20 - m) + 1 = nI (21 - m) := by rw [nI_1]; congr 1; omega
  have t := hX.2.2.2.2.1 i hG.1.1
  rw [e_Model_primary]
  unfold rb_Model_primary
  refine wp_v ?_
  refine wp_be (q_bad0 hG.2.1) ?_
  refine wp_t rfl ?_
  rw [hG.pl]
  unfold pPrim
  by_cases k42 : xK X i = 42
  · rw [if_pos k42]
    have hi := hG.lt hX (by omega)
    refine wp_be (q_tkY hX hG.1 hG.2.1 42 rfl k42 (by omega)) ?_
    refine wp_f (by decide) ?_
    rw [ep]
    refine x_sub (hE (d + 8) (by omega) _ _ (hG.adv hX hi) (by rw [nN_adv]; omega)) (fun a j r l T' h => ?_) (fun ej r l T' h => ?_)
    · obtain ⟨h1, h2, h3, h4, h5, q, h6, h7, h8, h9⟩ := h
      have hj := h2.1.1
      rw [nN_adv] at h4 h5 h7
      refine x_need (d := d + 4) hX 43 h2 rfl (by omega) (by omega) (fun hk2 hj2 => ?_) (fun S hz => ?_)
      · refine wp_some ?_
        refine ⟨by omega, h2.adv hX hj2, (Fe.rf.adv.tr h3).adv, ?_, by rw [nN_adv]; omega, q, h6, h7, by rw [nN_adv]; exact h8, by rw [advS_i (by omega)]; exact h9⟩
        rw [nN_adv, RepM_n]
        unfold RpN
        rw [if_neg (by omega), if_pos rfl]
        exact RepM.ag Ag.rf.adv h4
      · exact wp_some ⟨by omega, hj, by rw [h6]; exact nin (by omega) (by omega), (hz.fz (Fz.rf.adv.tr h3.1)).le (by omega)⟩
    · obtain ⟨b1, b2, b3, b4⟩ := h
      refine wp_be (q_nd1 b4.bd _) ?_
      exact wp_some ⟨by omega, b2, b3, (b4.fz Fz.rf.adv).le (by omega)⟩
  rw [if_neg k42]
  by_cases kl : xK X i = 5 ∨ xK X i = 27 ∨ xK X i = 34 ∨ xK X i = 35
  · rw [if_pos kl]
    have hi := hG.lt hX (by omega)
    by_cases k5 : xK X i = 5
    · refine wp_be (q_tkN hX hG.1 hG.2.1 42 rfl (by omega) (by omega) (by omega)) ?_
      refine wp_t rfl ?_
      refine wp_t (by rw [hG.1.2.2.2.1]; exact (srtK_nu _ (okK_lt t.1)).mpr k5) ?_
      refine wp_be (q_node hG.2.2.1 hb1 _ _) ?_
      refine wp_gd hnA ?_
      refine wp_st ?_
      rw [nc (m := nN T) (by omega), ndS_i (by omega), hG.1.2.2.2.2.2.2.2.1 k5]
      have hG1 : Gd X (sI (ndS T (nN T) 0 (nI (xP X i))) 52 (nN T) (xN X i).toInt32) i := (hG.nd hb1).w (by omega)
      have hD1 : ND (sI (ndS T (nN T) 0 (nI (xP X i))) 52 (nN T) (xN X i).toInt32) (nN T) 0 (nI (xP X i)) (xN X i).toInt32 (-1) (-1) (-1) _ _ _ _ _ := ND.nd.w52
      refine wp_be (q_adv hX hG1.1) ?_
      refine wp_some (x_leaf hX (hG1.adv hX hi) ((Fe.rf.nd hb1).w (by omega) (Nat.le_refl _)).adv (by rw [nN_adv, nN_w (by omega), nN_nd hb1]) hb1 hD1.adv.2.1 ?_)
      rw [if_pos k5]
      exact ⟨hD1.adv.1, hD1.adv.2.2.1⟩
    by_cases k27 : xK X i = 27
    · refine wp_be (q_tkN hX hG.1 hG.2.1 42 rfl (by omega) (by omega) (by omega)) ?_
      refine wp_t rfl ?_
      refine wp_f (by rw [hG.1.2.2.2.1]; exact fun q => absurd ((srtK_nu _ (okK_lt t.1)).mp q) (by omega)) ?_
      refine wp_f (by rw [hG.1.2.2.2.1]; exact fun q => absurd ((srtK_nm _ (okK_lt t.1)).mp q) (by omega)) ?_
      refine wp_be (q_twY hX hG.1 hG.2.1 13 (by omega) (by omega) k27) ?_
      refine wp_f (by decide) ?_
      refine wp_be (q_node (hG.adv hX hi).2.2.1 (by rw [nN_adv]; omega) _ _) ?_
      have hG1 := (hG.adv hX hi).nd (a := nN (advS T)) (k := 1) (p := nI (xP X i)) (by rw [nN_adv]; omega)
      have hF1 : Fe T (ndS (advS T) (nN (advS T)) 1 (nI (xP X i))) := Fe.rf.adv.nd (by rw [nN_adv]; omega)
      have hN1 : nN (ndS (advS T) (nN (advS T)) 1 (nI (xP X i))) = nN T + 1 := by rw [nN_nd (by rw [nN_adv]; omega), nN_adv]
      have hD1 : ND (ndS (advS T) (nN (advS T)) 1 (nI (xP X i))) (nN (advS T)) 1 (nI (xP X i)) (-1) (-1) (-1) (-1) _ _ _ _ _ := ND.nd
      rw [nN_adv] at hG1 hF1 hN1 hD1 ⊢
      refine wp_some (x_leaf hX hG1 hF1 hN1 hb1 hD1.2.1 ?_)
      rw [if_neg k5, if_pos k27]
      exact hD1.1
    by_cases k34 : xK X i = 34
    · refine wp_be (q_tkN hX hG.1 hG.2.1 42 rfl (by omega) (by omega) (by omega)) ?_
      refine wp_t rfl ?_
      refine wp_f (by rw [hG.1.2.2.2.1]; exact fun q => absurd ((srtK_nu _ (okK_lt t.1)).mp q) (by omega)) ?_
      refine wp_f (by rw [hG.1.2.2.2.1]; exact fun q => absurd ((srtK_nm _ (okK_lt t.1)).mp q) (by omega)) ?_
      refine wp_be (q_twN hX hG.1 13 (by omega) (by omega) (by show xK X i ≠ 27; omega)) ?_
      refine wp_t rfl ?_
      refine wp_be (q_twY hX hG.1 hG.2.1 14 (by omega) (by omega) k34) ?_
      refine wp_f (by decide) ?_
      refine wp_be (q_node (hG.adv hX hi).2.2.1 (by rw [nN_adv]; omega) _ _) ?_
      have hG1 := (hG.adv hX hi).nd (a := nN (advS T)) (k := 2) (p := nI (xP X i)) (by rw [nN_adv]; omega)
      have hF1 : Fe T (ndS (advS T) (nN (advS T)) 2 (nI (xP X i))) := Fe.rf.adv.nd (by rw [nN_adv]; omega)
      have hN1 : nN (ndS (advS T) (nN (advS T)) 2 (nI (xP X i))) = nN T + 1 := by rw [nN_nd (by rw [nN_adv]; omega), nN_adv]
      have hD1 : ND (ndS (advS T) (nN (advS T)) 2 (nI (xP X i))) (nN (advS T)) 2 (nI (xP X i)) (-1) (-1) (-1) (-1) _ _ _ _ _ := ND.nd
      rw [nN_adv] at hG1 hF1 hN1 hD1 ⊢
      refine wp_some (x_leaf hX hG1 hF1 hN1 hb1 hD1.2.1 ?_)
      rw [if_neg k5, if_neg k27, if_pos k34]
      exact hD1.1
    by_cases k35 : xK X i = 35
    · refine wp_be (q_tkN hX hG.1 hG.2.1 42 rfl (by omega) (by omega) (by omega)) ?_
      refine wp_t rfl ?_
      refine wp_f (by rw [hG.1.2.2.2.1]; exact fun q => absurd ((srtK_nu _ (okK_lt t.1)).mp q) (by omega)) ?_
      refine wp_f (by rw [hG.1.2.2.2.1]; exact fun q => absurd ((srtK_nm _ (okK_lt t.1)).mp q) (by omega)) ?_
      refine wp_be (q_twN hX hG.1 13 (by omega) (by omega) (by show xK X i ≠ 27; omega)) ?_
      refine wp_t rfl ?_
      refine wp_be (q_twN hX hG.1 14 (by omega) (by omega) (by show xK X i ≠ 34; omega)) ?_
      refine wp_t rfl ?_
      refine wp_be (q_twY hX hG.1 hG.2.1 15 (by omega) (by omega) k35) ?_
      refine wp_f (by decide) ?_
      refine wp_be (q_node (hG.adv hX hi).2.2.1 (by rw [nN_adv]; omega) _ _) ?_
      have hG1 := (hG.adv hX hi).nd (a := nN (advS T)) (k := 3) (p := nI (xP X i)) (by rw [nN_adv]; omega)
      have hF1 : Fe T (ndS (advS T) (nN (advS T)) 3 (nI (xP X i))) := Fe.rf.adv.nd (by rw [nN_adv]; omega)
      have hN1 : nN (ndS (advS T) (nN (advS T)) 3 (nI (xP X i))) = nN T + 1 := by rw [nN_nd (by rw [nN_adv]; omega), nN_adv]
      have hD1 : ND (ndS (advS T) (nN (advS T)) 3 (nI (xP X i))) (nN (advS T)) 3 (nI (xP X i)) (-1) (-1) (-1) (-1) _ _ _ _ _ := ND.nd
      rw [nN_adv] at hG1 hF1 hN1 hD1 ⊢
      refine wp_some (x_leaf hX hG1 hF1 hN1 hb1 hD1.2.1 ?_)
      rw [if_neg k5, if_neg k27, if_neg k34, if_pos k35]
      exact hD1.1
    omega
  rw [if_neg kl]
  by_cases k2 : xK X i = 2
  · refine wp_be (q_tkN hX hG.1 hG.2.1 42 rfl (by omega) (by omega) (by omega)) ?_
    refine wp_t rfl ?_
    refine wp_f (by rw [hG.1.2.2.2.1]; exact fun q => absurd ((srtK_nu _ (okK_lt t.1)).mp q) (by omega)) ?_
    rw [if_pos k2]
    refine wp_t (by rw [hG.1.2.2.2.1]; exact (srtK_nm _ (okK_lt t.1)).mpr k2) ?_
    refine wp_bi (x_named hX hnf hm (hE (d + 6) (by omega)) hG hb k2) ?_
    intro r l T' h
    exact wp_some h
  rw [if_neg k2]
  by_cases k28 : xK X i = 28
  · refine wp_be (q_tkN hX hG.1 hG.2.1 42 rfl (by omega) (by omega) (by omega)) ?_
    refine wp_t rfl ?_
    refine wp_f (by rw [hG.1.2.2.2.1]; exact fun q => absurd ((srtK_nu _ (okK_lt t.1)).mp q) (by omega)) ?_
    refine wp_f (by rw [hG.1.2.2.2.1]; exact fun q => absurd ((srtK_nm _ (okK_lt t.1)).mp q) (by omega)) ?_
    refine wp_be (q_twN hX hG.1 13 (by omega) (by omega) (by show xK X i ≠ 27; omega)) ?_
    refine wp_t rfl ?_
    refine wp_be (q_twN hX hG.1 14 (by omega) (by omega) (by show xK X i ≠ 34; omega)) ?_
    refine wp_t rfl ?_
    refine wp_be (q_twN hX hG.1 15 (by omega) (by omega) (by show xK X i ≠ 35; omega)) ?_
    refine wp_t rfl ?_
    rw [if_pos k28]
    have hi := hG.lt hX (by omega)
    refine wp_be (q_twY hX hG.1 hG.2.1 16 (by omega) (by omega) k28) ?_
    refine wp_f (by decide) ?_
    refine wp_bi (x_new hX hnf hm (hE (d + 6) (by omega)) (hE (d + 7) (by omega)) (hG.adv hX hi) (by rw [nN_adv]; omega)) ?_
    intro r l T' h
    exact wp_some (EQ.base Fe.rf.adv nN_adv h)
  rw [if_neg k28]
  by_cases k29 : xK X i = 29
  · refine wp_be (q_tkN hX hG.1 hG.2.1 42 rfl (by omega) (by omega) (by omega)) ?_
    refine wp_t rfl ?_
    refine wp_f (by rw [hG.1.2.2.2.1]; exact fun q => absurd ((srtK_nu _ (okK_lt t.1)).mp q) (by omega)) ?_
    refine wp_f (by rw [hG.1.2.2.2.1]; exact fun q => absurd ((srtK_nm _ (okK_lt t.1)).mp q) (by omega)) ?_
    refine wp_be (q_twN hX hG.1 13 (by omega) (by omega) (by show xK X i ≠ 27; omega)) ?_
    refine wp_t rfl ?_
    refine wp_be (q_twN hX hG.1 14 (by omega) (by omega) (by show xK X i ≠ 34; omega)) ?_
    refine wp_t rfl ?_
    refine wp_be (q_twN hX hG.1 15 (by omega) (by omega) (by show xK X i ≠ 35; omega)) ?_
    refine wp_t rfl ?_
    refine wp_be (q_twN hX hG.1 16 (by omega) (by omega) (by show xK X i ≠ 28; omega)) ?_
    refine wp_t rfl ?_
    refine wp_be (q_wdN hX hG.1 17 (by omega) (by omega) (by show xK X i ≠ 30; omega)) ?_
    refine wp_t rfl ?_
    rw [if_pos k29]
    have hi := hG.lt hX (by omega)
    refine wp_be (q_wdY hX hG.1 hG.2.1 18 (by omega) (by omega) k29) ?_
    refine wp_f (by decide) ?_
    refine wp_be (q_adv hX hG.1) ?_
    refine wp_t rfl ?_
    have h := x_196 (d := d) hX hnf hm (hE (d + 8) (by omega)) (hG.adv hX hi) Fe.rf.adv nN_adv hb (x3 := 0) (y0 := 8) (Or.inl ⟨k29, rfl, rfl⟩)
    simp only [if_pos k29] at h
    exact h
  rw [if_neg k29]
  by_cases k30 : xK X i = 30
  · refine wp_be (q_tkN hX hG.1 hG.2.1 42 rfl (by omega) (by omega) (by omega)) ?_
    refine wp_t rfl ?_
    refine wp_f (by rw [hG.1.2.2.2.1]; exact fun q => absurd ((srtK_nu _ (okK_lt t.1)).mp q) (by omega)) ?_
    refine wp_f (by rw [hG.1.2.2.2.1]; exact fun q => absurd ((srtK_nm _ (okK_lt t.1)).mp q) (by omega)) ?_
    refine wp_be (q_twN hX hG.1 13 (by omega) (by omega) (by show xK X i ≠ 27; omega)) ?_
    refine wp_t rfl ?_
    refine wp_be (q_twN hX hG.1 14 (by omega) (by omega) (by show xK X i ≠ 34; omega)) ?_
    refine wp_t rfl ?_
    refine wp_be (q_twN hX hG.1 15 (by omega) (by omega) (by show xK X i ≠ 35; omega)) ?_
    refine wp_t rfl ?_
    refine wp_be (q_twN hX hG.1 16 (by omega) (by omega) (by show xK X i ≠ 28; omega)) ?_
    refine wp_t rfl ?_
    rw [if_pos k30]
    have hi := hG.lt hX (by omega)
    refine wp_be (q_wdY hX hG.1 hG.2.1 17 (by omega) (by omega) k30) ?_
    refine wp_f (by decide) ?_
    refine wp_be (q_adv hX hG.1) ?_
    refine wp_f (by decide) ?_
    have h := x_196 (d := d) hX hnf hm (hE (d + 8) (by omega)) (hG.adv hX hi) Fe.rf.adv nN_adv hb (x3 := 1) (y0 := 9) (Or.inr ⟨k30, rfl, rfl⟩)
    simp only [if_neg k29] at h
    exact h
  rw [if_neg k30]
  by_cases k58 : xK X i = 58
  · refine wp_be (q_tkN hX hG.1 hG.2.1 42 rfl (by omega) (by omega) (by omega)) ?_
    refine wp_t rfl ?_
    refine wp_f (by rw [hG.1.2.2.2.1]; exact fun q => absurd ((srtK_nu _ (okK_lt t.1)).mp q) (by omega)) ?_
    refine wp_f (by rw [hG.1.2.2.2.1]; exact fun q => absurd ((srtK_nm _ (okK_lt t.1)).mp q) (by omega)) ?_
    refine wp_be (q_twN hX hG.1 13 (by omega) (by omega) (by show xK X i ≠ 27; omega)) ?_
    refine wp_t rfl ?_
    refine wp_be (q_twN hX hG.1 14 (by omega) (by omega) (by show xK X i ≠ 34; omega)) ?_
    refine wp_t rfl ?_
    refine wp_be (q_twN hX hG.1 15 (by omega) (by omega) (by show xK X i ≠ 35; omega)) ?_
    refine wp_t rfl ?_
    refine wp_be (q_twN hX hG.1 16 (by omega) (by omega) (by show xK X i ≠ 28; omega)) ?_
    refine wp_t rfl ?_
    refine wp_be (q_wdN hX hG.1 17 (by omega) (by omega) (by show xK X i ≠ 30; omega)) ?_
    refine wp_t rfl ?_
    refine wp_be (q_wdN hX hG.1 18 (by omega) (by omega) (by show xK X i ≠ 29; omega)) ?_
    refine wp_t rfl ?_
    rw [if_pos k58]
    have hi := hG.lt hX (by omega)
    refine wp_be (q_tkY hX hG.1 hG.2.1 58 rfl k58 (by omega)) ?_
    refine wp_f (by decide) ?_
    refine wp_be (q_node (hG.adv hX hi).2.2.1 (by rw [nN_adv]; omega) _ _) ?_
    have hG1 := (hG.adv hX hi).nd (a := nN (advS T)) (k := 10) (p := nI (xP X i)) (by rw [nN_adv]; omega)
    have hF1 : Fe T (ndS (advS T) (nN (advS T)) 10 (nI (xP X i))) := Fe.rf.adv.nd (by rw [nN_adv]; omega)
    have hN1 : nN (ndS (advS T) (nN (advS T)) 10 (nI (xP X i))) = nN T + 1 := by rw [nN_nd (by rw [nN_adv]; omega), nN_adv]
    have hD1 : ND (ndS (advS T) (nN (advS T)) 10 (nI (xP X i))) (nN (advS T)) 10 (nI (xP X i)) (-1) (-1) (-1) (-1) _ _ _ _ _ := ND.nd
    rw [nN_adv] at hG1 hF1 hN1 hD1 ⊢
    generalize ndS (advS T) (nN T) 10 (nI (xP X i)) = S1 at *
    rw [ep, nc (m := nN T) (by omega)]
    by_cases hm0 : m = 0
    · subst hm0
      refine wp_f (by decide) ?_
      refine wp_be (q_wrong0 hG1.2.1) ?_
      refine wp_bi (b_term (d := d + 5) hnf (hG1.fail hF1.1 (Nat.le_refl _)) (by omega) _) ?_
      intro r l S2 h2
      refine wp_gd hnA ?_
      refine wp_st ?_
      exact wp_some ⟨by omega, hi, hnA, (h2.2.w (by omega)).le (by omega)⟩
    · refine wp_t ((nI_leI (a := 21 - m) (b := 20) (by omega) (by omega)).mpr (by omega)) ?_
      refine x_sub (hT (d + 8) (by omega) (by omega) _ _ hG1 (by omega)) (fun a j r l S2 h2 => ?_) (fun ej r l S2 h2 => ?_)
      · obtain ⟨b1, b2, b3, b4, b5, q, b6, b7, b8, b9⟩ := h2
        rw [hN1] at b4 b5 b7
        refine wp_gd hnA ?_
        refine wp_st ?_
        refine wp_some ?_
        have hD2 := (hD1.fe b3 (by omega)).w52 (v := r)
        have hN2 : nN (sI S2 52 (nN T) r) = nN S2 := by rw [nN_w (by omega)]
        refine ⟨by omega, b2.w (by omega), (hF1.tr b3).w (by omega) (Nat.le_refl _), ?_, by rw [hN2]; omega, nN T, rfl, Nat.le_refl _, by rw [hN2]; omega, hD2.2.1⟩
        rw [hN2, RepM_n]
        unfold RpN
        rw [if_neg (by decide), if_neg (by decide), if_neg (by decide), if_neg (by decide), if_neg (by decide), if_neg (by decide), if_neg (by decide), if_neg (by decide), if_pos rfl]
        exact ⟨r, rfl, by omega, hD2.2.1, hD2.2.2.1, hD2.1, RepM.ag (Ag.rf.w (by omega) (Or.inl (by omega))) b4⟩
      · obtain ⟨b1, b2, b3, b4⟩ := h2
        refine wp_gd hnA ?_
        refine wp_st ?_
        exact wp_some ⟨by omega, b2, hnA, ((b4.fz hF1.1).w (by omega)).le (by omega)⟩
  rw [if_neg k58]
  by_cases k31 : xK X i = 31
  · refine wp_be (q_tkN hX hG.1 hG.2.1 42 rfl (by omega) (by omega) (by omega)) ?_
    refine wp_t rfl ?_
    refine wp_f (by rw [hG.1.2.2.2.1]; exact fun q => absurd ((srtK_nu _ (okK_lt t.1)).mp q) (by omega)) ?_
    refine wp_f (by rw [hG.1.2.2.2.1]; exact fun q => absurd ((srtK_nm _ (okK_lt t.1)).mp q) (by omega)) ?_
    refine wp_be (q_twN hX hG.1 13 (by omega) (by omega) (by show xK X i ≠ 27; omega)) ?_
    refine wp_t rfl ?_
    refine wp_be (q_twN hX hG.1 14 (by omega) (by omega) (by show xK X i ≠ 34; omega)) ?_
    refine wp_t rfl ?_
    refine wp_be (q_twN hX hG.1 15 (by omega) (by omega) (by show xK X i ≠ 35; omega)) ?_
    refine wp_t rfl ?_
    refine wp_be (q_twN hX hG.1 16 (by omega) (by omega) (by show xK X i ≠ 28; omega)) ?_
    refine wp_t rfl ?_
    refine wp_be (q_wdN hX hG.1 17 (by omega) (by omega) (by show xK X i ≠ 30; omega)) ?_
    refine wp_t rfl ?_
    refine wp_be (q_wdN hX hG.1 18 (by omega) (by omega) (by show xK X i ≠ 29; omega)) ?_
    refine wp_t rfl ?_
    refine wp_be (q_tkN hX hG.1 hG.2.1 58 rfl (by omega) (by omega) (by omega)) ?_
    refine wp_t rfl ?_
    rw [if_pos (Or.inl k31)]
    have hi := hG.lt hX (by omega)
    refine wp_be (q_wdY hX hG.1 hG.2.1 19 (by omega) (by omega) k31) ?_
    refine wp_f (by decide) ?_
    unfold rj_Model_primary_341
    refine wp_be (q_bad0 hG.2.1) ?_
    refine wp_t rfl ?_
    refine wp_be (q_adv hX hG.1) ?_
    refine wp_f (by decide) ?_
    exact x_365 (d := d) hX hnf hm (hE (d + 8) (by omega)) (hG.adv hX hi) Fe.rf.adv nN_adv hb (Or.inl ⟨k31, rfl⟩)
  by_cases k32 : xK X i = 32
  · refine wp_be (q_tkN hX hG.1 hG.2.1 42 rfl (by omega) (by omega) (by omega)) ?_
    refine wp_t rfl ?_
    refine wp_f (by rw [hG.1.2.2.2.1]; exact fun q => absurd ((srtK_nu _ (okK_lt t.1)).mp q) (by omega)) ?_
    refine wp_f (by rw [hG.1.2.2.2.1]; exact fun q => absurd ((srtK_nm _ (okK_lt t.1)).mp q) (by omega)) ?_
    refine wp_be (q_twN hX hG.1 13 (by omega) (by omega) (by show xK X i ≠ 27; omega)) ?_
    refine wp_t rfl ?_
    refine wp_be (q_twN hX hG.1 14 (by omega) (by omega) (by show xK X i ≠ 34; omega)) ?_
    refine wp_t rfl ?_
    refine wp_be (q_twN hX hG.1 15 (by omega) (by omega) (by show xK X i ≠ 35; omega)) ?_
    refine wp_t rfl ?_
    refine wp_be (q_twN hX hG.1 16 (by omega) (by omega) (by show xK X i ≠ 28; omega)) ?_
    refine wp_t rfl ?_
    refine wp_be (q_wdN hX hG.1 17 (by omega) (by omega) (by show xK X i ≠ 30; omega)) ?_
    refine wp_t rfl ?_
    refine wp_be (q_wdN hX hG.1 18 (by omega) (by omega) (by show xK X i ≠ 29; omega)) ?_
    refine wp_t rfl ?_
    refine wp_be (q_tkN hX hG.1 hG.2.1 58 rfl (by omega) (by omega) (by omega)) ?_
    refine wp_t rfl ?_
    refine wp_be (q_wdN hX hG.1 19 (by omega) (by omega) (by show xK X i ≠ 31; omega)) ?_
    refine wp_t rfl ?_
    rw [if_pos (Or.inr k32)]
    have hi := hG.lt hX (by omega)
    refine wp_be (q_wdY hX hG.1 hG.2.1 20 (by omega) (by omega) k32) ?_
    refine wp_f (by decide) ?_
    unfold rj_Model_primary_341
    refine wp_be (q_bad0 hG.2.1) ?_
    refine wp_t rfl ?_
    refine wp_be (q_adv hX hG.1) ?_
    refine wp_t rfl ?_
    exact x_365 (d := d) hX hnf hm (hE (d + 8) (by omega)) (hG.adv hX hi) Fe.rf.adv nN_adv hb (Or.inr ⟨k32, rfl⟩)
  rw [if_neg (by omega)]
  refine wp_be (q_tkN hX hG.1 hG.2.1 42 rfl (by omega) (by omega) (by omega)) ?_
  refine wp_t rfl ?_
  refine wp_f (by rw [hG.1.2.2.2.1]; exact fun q => absurd ((srtK_nu _ (okK_lt t.1)).mp q) (by omega)) ?_
  refine wp_f (by rw [hG.1.2.2.2.1]; exact fun q => absurd ((srtK_nm _ (okK_lt t.1)).mp q) (by omega)) ?_
  refine wp_be (q_twN hX hG.1 13 (by omega) (by omega) (by show xK X i ≠ 27; omega)) ?_
  refine wp_t rfl ?_
  refine wp_be (q_twN hX hG.1 14 (by omega) (by omega) (by show xK X i ≠ 34; omega)) ?_
  refine wp_t rfl ?_
  refine wp_be (q_twN hX hG.1 15 (by omega) (by omega) (by show xK X i ≠ 35; omega)) ?_
  refine wp_t rfl ?_
  refine wp_be (q_twN hX hG.1 16 (by omega) (by omega) (by show xK X i ≠ 28; omega)) ?_
  refine wp_t rfl ?_
  refine wp_be (q_wdN hX hG.1 17 (by omega) (by omega) (by show xK X i ≠ 30; omega)) ?_
  refine wp_t rfl ?_
  refine wp_be (q_wdN hX hG.1 18 (by omega) (by omega) (by show xK X i ≠ 29; omega)) ?_
  refine wp_t rfl ?_
  refine wp_be (q_tkN hX hG.1 hG.2.1 58 rfl (by omega) (by omega) (by omega)) ?_
  refine wp_t rfl ?_
  refine wp_be (q_wdN hX hG.1 19 (by omega) (by omega) (by show xK X i ≠ 31; omega)) ?_
  refine wp_t rfl ?_
  refine wp_be (q_wdN hX hG.1 20 (by omega) (by omega) (by show xK X i ≠ 32; omega)) ?_
  refine wp_t rfl ?_
  refine wp_be (q_wrong0 hG.2.1) ?_
  have hz := hG.fail (B := nN T) Fz.rf (Nat.le_refl _)
  unfold rj_Model_primary_341
  refine wp_be (q_bad1 hz.bd) ?_
  refine wp_f (by decide) ?_
  refine wp_t rfl ?_
  refine wp_mono (b_365 hnf hz (by omega)) ?_
  intro r l S h
  exact ⟨Nat.le_refl _, hi0, h.1, h.2.le (by omega)⟩
end QX
