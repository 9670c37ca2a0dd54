section SX
variable {nf d : Nat} {T T0 T1 T2 : gSt} {X : Lx} {e B i j m n v g : Nat}
theorem b_var49 (hnf : 5000 ≤ nf) {x2 x3 : Int32} (h : Zb X e T0 B T) (hx : inb x3 8200) : wp (rj_Model_readVar_49 (RR nf (d + 18)) nf T x2 x3) (fun r _ T' => inb r 8200 ∧ Zb X e T0 B T') := by
  unfold rj_Model_readVar_49
  refine wp_be (q_nm1 h.bd) ?_
  refine wp_gd hx ?_
  refine wp_st ?_
  refine wp_st ?_
  have h1 := (h.w (g := 61) (j := x3.toNatClampNeg) (v := T.1 62 0) (by omega)).w (g := 62) (j := 0) (v := (sI T 61 x3.toNatClampNeg (T.1 62 0)).1 62 0 + 1) (by omega)
  refine wp_be (q_nd1 h1.bd _) ?_
  refine wp_be (b_type (d := d + 14) h1.bd _) ?_
  refine wp_gd hx ?_
  refine wp_st ?_
  have h2 := h1.w (g := 53) (j := x3.toNatClampNeg) (v := 0) (by omega)
  refine wp_be (q_tk1 h2.bd _) ?_
  refine wp_t rfl ?_
  refine wp_be (q_nd1 h2.bd _) ?_
  exact wp_some ⟨hx, h2⟩
set_option maxHeartbeats 4000000 in
theorem s_var49 (hX : LX X) (hnf : 5000 ≤ nf) (hm : m ≤ 20) (hE : ∀ D, d + 10 ≤ D → IHE X nf m D) (hB : ∀ D, d + 10 ≤ D → IHB X nf m D) (hS : Gs X T2 (i + 1) v g) (hv : v < 20 ∨ xK X (i + 1) ≠ 2) (hg : g ≤ 8) (hF : Fs T T2) (hN : nN T2 = nN T + 1) (hb : nN T ≤ 2 * i) {w : Int64} {us mu fd : Int32} (hD : ND T2 (nN T) 20 (nI (xP X i)) (-1) (-1) (-1) (-1) w (nI (xP X (i + 1))) us mu fd) (hw : xK X (i + 1) = 2 → w = xN X (i + 1)) : wp (rj_Model_readVar_49 (RR nf (d + 18)) nf T2 (nI (20 - m)) (nI (nN T))) (fun r _ T' => SQ X T i (m + 1) (sn (xK X) 2 (i + 1) (sn (xK X) 48 (i + 2) (sy (pTy (xK X) 6 false (i + 3)) fun j => if xK X j = 50 then se (pEx (xK X) m 0 (j + 1)) fun a j2 => sn (xK X) 46 j2 (.ok (tD 20 i v a tZ, j2 + 1, v + 1, g)) else sn (xK X) 46 j (.ok (tD 20 i v tZ tZ, j + 1, v + 1, g))))) r T') := by
  have hx := hX.1
  have hi1 := hS.1.1.1
  have hb1 : nN T < 8200 := by omega
  have hnA : inb (nI (nN T)) 8200 := nin (by omega) (by omega)
  have ca : (nI (nN T)).toNatClampNeg = nN T := nc (by omega)
  have ep : nI (20 - m) + 1 = nI (21 - m) := by rw [nI_1]; congr 1; omega
  unfold rj_Model_readVar_49
  rw [ep, ca]
  -- behind a fault, from the TYPE on
  have bd : ∀ S ej B, Zb X ej T B S → i ≤ ej → ej ≤ xn X → B ≤ 2 * ej + 4 * (m + 1) + 4 → wp (bi (RR nf (d + 18) 28 S [(1 : Int32)] []) fun r11 l11 T11 => gd (inb (nI (nN T)) 8200) <| stK (sI T11 53 (nN T) r11) fun T12 => bi (RR nf (d + 18) 18 T12 [(61 : Int32)] []) fun r13 l13 T13 => if r13 = (0 : Int32) then (bi (RR nf (d + 18) 20 T13 [(59 : Int32)] []) fun r15 l15 T15 => some (nI (nN T), 0, T15)) else (bi (RR nf (d + 18) 35 T13 [nI (21 - m)] []) fun r17 l17 T17 => gd (inb (nI (nN T)) 8200) <| stK (sI T17 52 (nN T) r17) fun T18 => bi (RR nf (d + 18) 20 T18 [(59 : Int32)] []) fun r19 l19 T19 => some (nI (nN T), 0, T19))) (fun r2 _ T2 => EE X T i (m + 1) ej r2 T2) := by
    intro S ej B h1 h2 h3 h4
    refine wp_be (b_type (d := d + 14) h1.bd _) ?_
    refine wp_gd hnA ?_
    refine wp_st ?_
    have h5 := h1.w (g := 53) (j := nN T) (v := 0) (by omega)
    refine wp_be (q_tk1 h5.bd _) ?_
    refine wp_t rfl ?_
    refine wp_be (q_nd1 h5.bd _) ?_
    exact wp_some ⟨h2, h3, hnA, h5.le h4⟩
  refine g_name (d := d + 15) hX hS.1 (fun k2 hj => ?_) (fun k2 w' S hz => ?_)
  · have hv2 : v < 20 := by omega
    unfold sn
    rw [if_pos k2]
    refine wp_gd hnA ?_
    refine wp_st ?_
    refine wp_st ?_
    have hS1 := hS.adv hX hj
    rw [show (sI (advS T2) 61 (nN T) ((advS T2).1 62 0)).1 62 0 = (advS T2).1 62 0 from by rw [sI_ne (by omega)], hS1.2.2.1, nI_1]
    have hS2 : Gs X (sI (sI (advS T2) 61 (nN T) (nI v)) 62 0 (nI (v + 1))) (i + 2) (v + 1) g := (hS1.w (by omega)).w62
    have hF2 : Fs T (sI (sI (advS T2) 61 (nN T) (nI v)) 62 0 (nI (v + 1))) := (hF.adv.w (by omega) (Or.inl (Nat.le_refl _))).w (by omega) (Or.inr (by omega))
    have hD2 : ND (sI (sI (advS T2) 61 (nN T) (nI v)) 62 0 (nI (v + 1))) (nN T) 20 (nI (xP X i)) (-1) (-1) (-1) (-1) w (nI (xP X (i + 1))) us mu (nI v) := by
      have h := hD.adv.w61 (v := nI v)
      obtain ⟨c50, c51, c52, c53, c54, c55, c56, c57, c58, c59, c61⟩ := h
      exact ⟨by rw [sI_ne (by omega)]; exact c50, by rw [sI_ne (by omega)]; exact c51, by rw [sI_ne (by omega)]; exact c52, by rw [sI_ne (by omega)]; exact c53, by rw [sI_ne (by omega)]; exact c54, by rw [sI_ne (by omega)]; exact c55, c56, by rw [sI_ne (by omega)]; exact c57, by rw [sI_ne (by omega)]; exact c58, by rw [sI_ne (by omega)]; exact c59, by rw [sI_ne (by omega)]; exact c61⟩
    have hN2 : nN (sI (sI (advS T2) 61 (nN T) (nI v)) 62 0 (nI (v + 1))) = nN T + 1 := by rw [nN_w (by omega), nN_w (by omega), nN_adv, hN]
    generalize sI (sI (advS T2) 61 (nN T) (nI v)) 62 0 (nI (v + 1)) = S2 at *
    have hj2 := hS2.1.1.1
    refine g_need (d := d + 14) hX 48 hS2.1 rfl (by omega) (by omega) (fun k48 hj3 => ?_) (fun k48 S3 hz => ?_)
    · rw [if_pos k48]
      have hS3 := hS2.adv hX hj3
      have ht := x_type hX hnf 6 (d + 18) (by omega) (by omega) (advS S2) (i + 3) hS3.1 hS3.2.1
      rw [show nI (7 - 6) = (1 : Int32) from rfl] at ht
      refine wp_bi ht ?_
      intro r l S4 h4
      generalize pTy (xK X) 6 false (i + 3) = res at h4 ⊢
      cases res with
      | error ej =>
        obtain ⟨a1, a2, a3, a4⟩ := h4
        refine wp_gd hnA ?_
        refine wp_st ?_
        have h5 := (a4.fz hF2.adv.1).w (g := 53) (j := nN T) (v := r) (by omega)
        refine wp_be (q_tk1 h5.bd _) ?_
        refine wp_t rfl ?_
        refine wp_be (q_nd1 h5.bd _) ?_
        exact wp_some ⟨by omega, a2, hnA, h5.le (by rw [nN_adv, hN2]; omega)⟩
      | ok j =>
        obtain ⟨a1, a2, a3, a4, a5, a6⟩ := h4
        subst a5
        have hj4 := a2.1.1
        refine wp_gd hnA ?_
        refine wp_st ?_
        have hS4 := hS3.ft a4 a2 a3
        have hN4' : nN S4 = nN T + 1 := by rw [nN_ft a4, nN_adv, hN2]
        have hS5 := hS4.w (g' := 53) (j := nN T) (x := nI (nW (advS S2))) (by omega)
        have hF5 := (hF2.adv.tr a4.fs).w (g := 53) (j := nN T) (v := nI (nW (advS S2))) (by omega) (Or.inl (Nat.le_refl _))
        have hD5 := (hD2.adv.fs a4.fs (by rw [nN_adv, hN2]; omega)).w53 (v := nI (nW (advS S2)))
        have hW5 : RepW X (sI S4 53 (nN T) (nI (nW (advS S2)))) 6 (nW (advS S2)) (i + 3) := RepW.av (T := S4) 6 _ _ (Aw.w (by omega)).av a6
        have hN5 : nN (sI S4 53 (nN T) (nI (nW (advS S2)))) = nN T + 1 := by rw [nN_w (by omega), hN4']
        generalize sI S4 53 (nN T) (nI (nW (advS S2))) = S5 at *
        show wp _ (fun r x T' => SQ X T i (m + 1) (if xK X j = 50 then se (pEx (xK X) m 0 (j + 1)) fun a j2 => (if xK X j2 = 46 then .ok (tD 20 i v a tZ, j2 + 1, v + 1, g) else .error j2) else (if xK X j = 46 then .ok (tD 20 i v tZ tZ, j + 1, v + 1, g) else .error j)) r T')
        by_cases k50 : xK X j = 50
        · have hj5 := hS5.1.lt hX (by omega)
          rw [if_pos k50]
          refine wp_be (q_tkY hX hS5.1.1 hS5.1.2.1 50 rfl k50 (by omega)) ?_
          refine wp_f (by decide) ?_
          have hS6 := hS5.adv hX hj5
          refine s_sub (hE (d + 18) (by omega) (advS S5) (j + 1) hS6.1 (by rw [nN_adv, hN5]; omega)) (fun a j2 r l S7 h7 => ?_) (fun ej r l S7 h7 => ?_)
          · have hS7 := hS6.sub h7
            obtain ⟨b1, b2, b3, b4, b5, q, b6, b7, b8, b9⟩ := h7
            have hj7 := b2.1.1
            rw [nN_adv, hN5] at b4 b5 b7
            refine wp_gd hnA ?_
            refine wp_st ?_
            have hS8 := hS7.w (g' := 52) (j := nN T) (x := r) (by omega)
            have hF8 := (hF5.adv.tr b3.fs).w (g := 52) (j := nN T) (v := r) (by omega) (Or.inl (Nat.le_refl _))
            have hD8 := (hD5.adv.fe b3 (by rw [nN_adv, hN5]; omega)).w52 (v := r)
            have hM8 : RepM X (sI S7 52 (nN T) r) a (nN T + 1) (nN S7) r := RepM.ag (Ag.rf.w (by omega) (Or.inl (by omega))) b4
            have hW8 : RepW X (sI S7 52 (nN T) r) 6 (nW (advS S2)) (i + 3) := RepW.av (T := S5) 6 _ _ (((Fe.rf.adv.aw (T := S5)).tr b3.aw).tr (Aw.w (by omega))).av hW5
            have hN8 : nN (sI S7 52 (nN T) r) = nN S7 := by rw [nN_w (by omega)]
            generalize sI S7 52 (nN T) r = S8 at *
            refine g_need (d := d + 14) hX 46 hS8.1 rfl (by omega) (by omega) (fun k46 hj9 => ?_) (fun k46 S9 hz => ?_)
            · rw [if_pos k46]
              have hN9 : nN (advS S8) = nN S7 := by rw [nN_adv, hN8]
              have hD9 := hD8.adv
              refine wp_some ⟨by omega, hS8.adv hX hj9, by omega, hg, hF8.adv, ?_, by rw [hN9]; omega, nN T, rfl, Nat.le_refl _, by rw [hN9]; omega, hD9.2.2.2.2.2.1, _, _, _, _, _, rfl, by decide, by decide⟩
              rw [hN9]
              rw [RepS_n]
              unfold RsN
              rw [if_pos (by decide)]
              refine ⟨rfl, by omega, hD9.1, hD9.2.1, ⟨hD9.2.2.2.2.2.2.1.trans (hw k2), hD9.2.2.2.2.2.2.2.1⟩, hD9.2.2.2.2.2.2.2.2.2.2, ⟨nW (advS S2), hD9.2.2.2.1, RepW.av (T := S8) 6 _ _ Fe.rf.adv.aw.av hW8⟩, ?_⟩
              rw [hD9.2.2.1]
              exact RepM.ag Ag.rf.adv hM8
            · rw [if_neg k46]
              exact wp_some ⟨by omega, hj7, hnA, (hz.fz hF8.1).le (by omega)⟩
          · have h8 := EE.up hF5.adv.1 h7 (i := i) (by omega)
            refine wp_gd hnA ?_
            refine wp_st ?_
            have h9 := h8.2.2.2.w (g := 52) (j := nN T) (v := r) (by omega)
            refine wp_be (q_nd1 h9.bd _) ?_
            exact wp_some ⟨h8.1, h8.2.1, hnA, h9⟩
        · rw [if_neg k50]
          refine wp_be (q_tkN hX hS5.1.1 hS5.1.2.1 50 rfl k50 (by omega) (by omega)) ?_
          refine wp_t rfl ?_
          refine g_need (d := d + 14) hX 46 hS5.1 rfl (by omega) (by omega) (fun k46 hj9 => ?_) (fun k46 S9 hz => ?_)
          · rw [if_pos k46]
            have hN9 : nN (advS S5) = nN T + 1 := by rw [nN_adv, hN5]
            have hD9 := hD5.adv
            refine wp_some ⟨by omega, hS5.adv hX hj9, by omega, hg, hF5.adv, ?_, by rw [hN9]; omega, nN T, rfl, Nat.le_refl _, by rw [hN9]; omega, hD9.2.2.2.2.2.1, _, _, _, _, _, rfl, by decide, by decide⟩
            rw [hN9]
            rw [RepS_n]
            unfold RsN
            rw [if_pos (by decide)]
            refine ⟨rfl, by omega, hD9.1, hD9.2.1, ⟨hD9.2.2.2.2.2.2.1.trans (hw k2), hD9.2.2.2.2.2.2.2.1⟩, hD9.2.2.2.2.2.2.2.2.2.2, ⟨nW (advS S2), hD9.2.2.2.1, RepW.av (T := S5) 6 _ _ Fe.rf.adv.aw.av hW5⟩, ?_⟩
            rw [hD9.2.2.1]
            exact ⟨rfl, rfl⟩
          · rw [if_neg k46]
            exact wp_some ⟨by omega, hj4, hnA, (hz.fz hF5.1).le (by omega)⟩
    · rw [if_neg k48]
      exact bd S3 (i + 2) _ (hz.fz hF2.1) (by omega) hj2 (by omega)
  · unfold sn
    rw [if_neg k2]
    refine wp_gd hnA ?_
    refine wp_st ?_
    refine wp_st ?_
    have h1 := ((hz.fz hF.1).w (g := 61) (j := nN T) (v := S.1 62 0) (by omega)).w (g := 62) (j := 0) (v := (sI S 61 (nN T) (S.1 62 0)).1 62 0 + 1) (by omega)
    refine wp_be (q_nd1 h1.bd _) ?_
    exact bd _ (i + 1) _ h1 (by omega) hi1 (by omega)
set_option maxHeartbeats 4000000 in
theorem s_var (hX : LX X) (hnf : 5000 ≤ nf) (hm : m ≤ 20) (hE : ∀ D, d + 10 ≤ D → IHE X nf m D) (hB : ∀ D, d + 10 ≤ D → IHB X nf m D) (hS : Gs X T1 (i + 1) v g) (hv : v ≤ 20) (hg : g ≤ 8) (hF : Fs T T1) (hN : nN T1 = nN T) (hb : nN T ≤ 2 * i) : wp (RR nf (d + 19) 33 T1 [nI (xP X i), nI (20 - m)] []) (fun r _ T' => SQ X T i (m + 1) (if v = 20 then .error (i + 1) else sn (xK X) 2 (i + 1) (sn (xK X) 48 (i + 2) (sy (pTy (xK X) 6 false (i + 3)) fun j => if xK X j = 50 then se (pEx (xK X) m 0 (j + 1)) fun a j2 => sn (xK X) 46 j2 (.ok (tD 20 i v a tZ, j2 + 1, v + 1, g)) else sn (xK X) 46 j (.ok (tD 20 i v tZ tZ, j + 1, v + 1, g))))) r T') := by
  have hx := hX.1
  have hi1 := hS.1.1.1
  have hb1 : nN T < 8200 := by omega
  have hnA : inb (nI (nN T)) 8200 := nin (by omega) (by omega)
  have ca : (nI (nN T)).toNatClampNeg = nN T := nc (by omega)
  have ep : nI (20 - m) + 1 = nI (21 - m) := by rw [nI_1]; congr 1; omega
  have t := hX.2.2.2.2.1 (i + 1) hi1
  rw [e_Model_readVar]
  unfold rb_Model_readVar
  refine wp_be (q_node hS.1.2.2.1 (by omega) _ _) ?_
  have hS1 := hS.nd (a := nN T1) (k := 20) (p := nI (xP X i)) (by omega)
  have hF1 := hF.nd (k := 20) (p := nI (xP X i)) (by omega)
  have hD1 : ND (ndS T1 (nN T1) 20 (nI (xP X i))) (nN T1) 20 (nI (xP X i)) (-1) (-1) (-1) (-1) (T1.2 56 (nN T1)) (T1.1 57 (nN T1)) (T1.1 58 (nN T1)) 0 (T1.1 61 (nN T1)) := ND.nd
  have hN1 : nN (ndS T1 (nN T1) 20 (nI (xP X i))) = nN T + 1 := by rw [nN_nd (by omega), hN]
  rw [hN] at hS1 hF1 hD1 hN1 ⊢
  generalize ndS T1 (nN T) 20 (nI (xP X i)) = S1 at *
  refine wp_gd hnA ?_
  refine wp_st ?_
  refine wp_gd hnA ?_
  refine wp_st ?_
  rw [ca, hS1.1.pl]
  have hS2 : Gs X (sJ (sI S1 57 (nN T) (nI (xP X (i + 1)))) 56 (nN T) (S1.2 6 0)) (i + 1) v g := (hS1.w (by omega)).wj
  have hF2 : Fs T (sJ (sI S1 57 (nN T) (nI (xP X (i + 1)))) 56 (nN T) (S1.2 6 0)) := (hF1.w (by omega) (Or.inl (Nat.le_refl _))).wj (Nat.le_refl _)
  have hD2 := (hD1.w57 (v := nI (xP X (i + 1)))).w56 (v := S1.2 6 0)
  have hN2 : nN (sJ (sI S1 57 (nN T) (nI (xP X (i + 1)))) 56 (nN T) (S1.2 6 0)) = nN T + 1 := by rw [nN_wj, nN_w (by omega), hN1]
  have hw : xK X (i + 1) = 2 → S1.2 6 0 = xN X (i + 1) := fun k => hS1.1.1.2.2.2.2.2.2.2.2 (Or.inl k)
  rw [show (sI S1 57 (nN T) (nI (xP X (i + 1)))).2 6 0 = S1.2 6 0 from rfl]
  generalize hgw : S1.2 6 0 = w at *
  generalize sJ (sI S1 57 (nN T) (nI (xP X (i + 1)))) 56 (nN T) w = S2 at *
  have e2 := hS2.1.1.2.2.2.1
  by_cases k2 : xK X (i + 1) = 2
  · refine wp_t (by rw [e2]; exact (srtK_nm _ (okK_lt t.1)).mpr k2) ?_
    by_cases hv20 : v = 20
    · subst hv20
      rw [if_pos (show 20 = 20 from rfl)]
      refine wp_t (by rw [hS2.2.2.1]; rfl) ?_
      refine wp_be (q_wrong0 hS2.1.2.1) ?_
      refine wp_mono (b_var49 hnf (hS2.1.fail hF2.1 (Nat.le_refl _)) hnA) ?_
      intro r l S3 h3
      exact ⟨by omega, hi1, h3.1, h3.2.le (by omega)⟩
    · rw [if_neg hv20]
      refine wp_f (fun q => hv20 (by rw [hS2.2.2.1] at q; exact nI_inj (a := v) (b := 20) (by omega) (by omega) q)) ?_
      exact s_var49 hX hnf hm hE hB hS2 (Or.inl (by omega)) hg hF2 hN2 hb hD2 hw
  · refine wp_f (by rw [e2]; exact fun q => k2 ((srtK_nm _ (okK_lt t.1)).mp q)) ?_
    have h := s_var49 hX hnf hm hE hB hS2 (Or.inr k2) hg hF2 hN2 hb hD2 hw
    by_cases hv20 : v = 20
    · rw [if_pos hv20]
      unfold sn at h
      rw [if_neg k2] at h
      exact h
    · rw [if_neg hv20]
      exact h
end SX
