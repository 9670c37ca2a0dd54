/-! new -/
section NX
variable {nf d : Nat} {T T0 T1 T2 : gSt} {X : Lx} {e B i m n : Nat}
theorem b_new61 (hnf : 5000 ≤ nf) {x2 x3 : Int32} (h : Zb X e T0 B T) (hx : inb x3 8200) : wp (rj_Model_readNew_61 (RR nf (d + 7)) nf T x2 x3) (fun r _ T' => inb r 8200 ∧ Zb X e T0 B T') := by
  unfold rj_Model_readNew_61
  refine wp_gd hx ?_
  refine wp_st ?_
  have h1 := h.w (g := 58) (j := x3.toNatClampNeg) (v := T.1 45 0) (by omega)
  refine wp_be (b_uses (d := d + 5) hnf h1.bd) ?_
  refine wp_gd hx ?_
  refine wp_st ?_
  have h2 := h1.w (g := 59) (j := x3.toNatClampNeg) (v := 0) (by omega)
  refine wp_v ?_
  refine wp_be (q_tk1 h2.bd _) ?_
  refine wp_t rfl ?_
  refine wp_gd hx ?_
  refine wp_st ?_
  refine wp_be (q_nd1 (h2.w (by omega)).bd _) ?_
  refine wp_bi (b_args (d := d + 2) hnf (h2.w (by omega)) hx _ _) ?_
  intro r l T' h'
  exact wp_some ⟨hx, h'⟩
theorem b_new30 (hnf : 5000 ≤ nf) {x2 x3 : Int32} (h : Zb X e T0 B T) (hx : inb x3 8200) : wp (rj_Model_readNew_30 (RR nf (d + 7)) nf T x2 x3) (fun r _ T' => inb r 8200 ∧ Zb X e T0 B T') := by
  unfold rj_Model_readNew_30
  refine wp_gd hx ?_
  refine wp_st ?_
  refine wp_gd hx ?_
  refine wp_st ?_
  have h1 : Zb X e T0 B (sI (sJ T 56 x3.toNatClampNeg (T.2 6 0)) 57 x3.toNatClampNeg ((sJ T 56 x3.toNatClampNeg (T.2 6 0)).1 3 0)) := (h.wj (by decide)).w (by omega)
  refine wp_be (q_bad1 h1.bd) ?_
  refine wp_f (by decide) ?_
  exact b_new61 hnf h1 hx
set_option maxHeartbeats 8000000 in
theorem x_new61 (hX : LX X) (hnf : 5000 ≤ nf) (hm : m ≤ 20) (hE : ∀ T i, Gd X T i → nN T ≤ 2 * i → wp (RR nf (d + 6) 35 T [nI (21 - m)] []) (fun r _ T' => EQ X T i m (pEx (xK X) m 0 i) r T')) (hE7 : ∀ T i, Gd X T i → nN T ≤ 2 * i → wp (RR nf (d + 7) 35 T [nI (21 - m)] []) (fun r _ T' => EQ X T i m (pEx (xK X) m 0 i) r T')) {v : Nat} {nx us mu fd : Int32} (hG : Gd X T (i + 3)) (hF : Fe T1 T) (hN : nN T = nN T1 + 1) (hb : nN T1 ≤ 2 * (i + 1)) (hD : ND T (nN T1) 6 (nI (xP X i)) (-1) (-1) (nI v) nx (xN X (i + 2)) (nI (xP X (i + 2))) us mu fd) (hV : RepU X T v (i + 1) 1) : wp (rj_Model_readNew_61 (RR nf (d + 7)) nf T (nI (20 - m)) (nI (nN T1))) (fun r _ T' => EQ X T1 i (m + 1) (if xK X (i + 3 + rgs (xK X) 3 (i + 3)) = 49 then ek (xK X) 2 (i + 3 + rgs (xK X) 3 (i + 3) + 1) (ek (xK X) 42 (i + 3 + rgs (xK X) 3 (i + 3) + 2) (eb (pEx (xK X) m 0 (i + 3 + rgs (xK X) 3 (i + 3) + 3)) fun a j => ek (xK X) 43 j (.ok (tD 7 i (rgs (xK X) 3 (i + 3)) a tZ, j + 1)))) else ek (xK X) 40 (i + 3 + rgs (xK X) 3 (i + 3)) (eb (pArgs (xK X) (pEx (xK X) m 0) 41 4001 0 (i + 3 + rgs (xK X) 3 (i + 3) + 1)) fun a j => .ok (tD 7 i (rgs (xK X) 3 (i + 3)) a tZ, j))) r T') := by
  have hx := hX.1
  have hi3 := hG.1.1
  have hnA : inb (nI (nN T1)) 8200 := nin (by omega) (by omega)
  have ep : nI (20 - m) + 1 = nI (21 - m) := by rw [nI_1]; congr 1; omega
  unfold rj_Model_readNew_61
  refine wp_gd hnA ?_
  refine wp_st ?_
  rw [nc (m := nN T1) (by omega), hG.2.2.2.1]
  have hG1 := hG.w (g := 58) (j := nN T1) (v := nI (nU T)) (by omega)
  have hF1 := hF.w (g := 58) (j := nN T1) (v := nI (nU T)) (by omega) (Nat.le_refl _)
  have hD1 := hD.w58 (v := nI (nU T))
  have hV1 : RepU X (sI T 58 (nN T1) (nI (nU T))) v (i + 1) 1 := RepU.ag (Ag.rf.w (lo := 0) (hi := 0) (by omega) (by omega)) hV
  have hN1 : nN (sI T 58 (nN T1) (nI (nU T))) = nN T1 + 1 := by rw [nN_w (by omega), hN]
  have hU1 : nU (sI T 58 (nN T1) (nI (nU T))) = nU T := by rw [nU_w (by omega)]
  generalize sI T 58 (nN T1) (nI (nU T)) = S1 at *
  refine wp_bi (x_uses (d := d + 3) hX hnf hG1) ?_
  intro r l S2 h2
  obtain ⟨a1, a2, a3, a4, a5, a6, a7⟩ := h2
  subst a1
  rw [hU1] at a6
  generalize rgs (xK X) 3 (i + 3) = ee at *
  have hj2 := a2.1.1
  refine wp_gd hnA ?_
  refine wp_st ?_
  refine wp_v ?_
  have hG3 := a2.w (g := 59) (j := nN T1) (v := nI ee) (by omega)
  have hF3 := (hF1.tr a3).w (g := 59) (j := nN T1) (v := nI ee) (by omega) (Nat.le_refl _)
  have hD3 := (a7 _ _ _ _ _ _ _ _ _ _ _ _ hD1).w59 (v := nI ee)
  have hV3 : RepU X (sI S2 59 (nN T1) (nI ee)) v (i + 1) 1 := RepU.ag (Ag.rf.w (lo := 0) (hi := 0) (by omega) (by omega)) (RepU.ag a3.2.1 hV1)
  have hR3 : RepU X (sI S2 59 (nN T1) (nI ee)) (nU T) (i + 3) ee := RepU.ag (Ag.rf.w (lo := 0) (hi := 0) (by omega) (by omega)) a6
  have hN3 : nN (sI S2 59 (nN T1) (nI ee)) = nN T1 + 1 := by rw [nN_w (by omega), a4, hN1]
  rw [hG3.pl]
  generalize sI S2 59 (nN T1) (nI ee) = S3 at *
  by_cases k49 : xK X (i + 3 + ee) = 49
  · rw [if_pos k49]
    have hj3 := hG3.lt hX (by omega)
    refine wp_be (q_tkY hX hG3.1 hG3.2.1 49 rfl k49 (by omega)) ?_
    refine wp_f (by decide) ?_
    refine wp_gd hnA ?_
    refine wp_st ?_
    have hG4 := (hG3.adv hX hj3).w (g := 50) (j := nN T1) (v := 7) (by omega)
    have hF4 := hF3.adv.w (g := 50) (j := nN T1) (v := 7) (by omega) (Nat.le_refl _)
    have hD4 := hD3.adv.w50 (v := 7)
    have hV4 : RepU X (sI (advS S3) 50 (nN T1) 7) v (i + 1) 1 := RepU.ag (Ag.rf.adv.w (lo := 0) (hi := 0) (by omega) (by omega)) hV3
    have hR4 : RepU X (sI (advS S3) 50 (nN T1) 7) (nU T) (i + 3) ee := RepU.ag (Ag.rf.adv.w (lo := 0) (hi := 0) (by omega) (by omega)) hR3
    have hN4 : nN (sI (advS S3) 50 (nN T1) 7) = nN T1 + 1 := by rw [nN_w (by omega), nN_adv, hN3]
    generalize sI (advS S3) 50 (nN T1) 7 = S4 at *
    refine wp_be (q_node hG4.2.2.1 (by omega) _ _) ?_
    rw [hN4, nc (m := nN T1 + 1) (by omega)]
    have hG5 := (hG4.nd (a := nN S4) (k := 30) (p := nI (xP X (i + 3 + ee))) (by omega))
    have hF5 := hF4.nd (k := 30) (p := nI (xP X (i + 3 + ee))) (by omega)
    have hE5 : ND (ndS S4 (nN S4) 30 (nI (xP X (i + 3 + ee)))) (nN S4) 30 (nI (xP X (i + 3 + ee))) (-1) (-1) (-1) (-1) _ _ _ _ _ := ND.nd
    have hD5 := hD4.ndo (a := nN S4) (k2 := 30) (p2 := nI (xP X (i + 3 + ee))) (by omega)
    have hV5 : RepU X (ndS S4 (nN S4) 30 (nI (xP X (i + 3 + ee)))) v (i + 1) 1 := RepU.ag (Ag.rf.nd (lo := 0) (hi := 0) (by omega)) hV4
    have hR5 : RepU X (ndS S4 (nN S4) 30 (nI (xP X (i + 3 + ee)))) (nU T) (i + 3) ee := RepU.ag (Ag.rf.nd (lo := 0) (hi := 0) (by omega)) hR4
    have hN5 : nN (ndS S4 (nN S4) 30 (nI (xP X (i + 3 + ee)))) = nN T1 + 2 := by rw [nN_nd (by omega), hN4]
    rw [hN4] at hG5 hF5 hE5 hD5 hV5 hR5 hN5
    generalize ndS S4 (nN T1 + 1) 30 (nI (xP X (i + 3 + ee))) = S5 at *
    have hnB : inb (nI (nN T1 + 1)) 8200 := nin (by omega) (by omega)
    refine wp_gd hnB ?_
    refine wp_st ?_
    rw [hG5.pl]
    have hG6 := hG5.w (g := 57) (j := nN T1 + 1) (v := nI (xP X (i + 3 + ee + 1))) (by omega)
    have hF6 := hF5.w (g := 57) (j := nN T1 + 1) (v := nI (xP X (i + 3 + ee + 1))) (by omega) (by omega)
    have hE6 := hE5.w57 (v := nI (xP X (i + 3 + ee + 1)))
    have hD6 := hD5.wo (g := 57) (j := nN T1 + 1) (v := nI (xP X (i + 3 + ee + 1))) (by omega)
    have hV6 : RepU X (sI S5 57 (nN T1 + 1) (nI (xP X (i + 3 + ee + 1)))) v (i + 1) 1 := RepU.ag (Ag.rf.w (lo := 0) (hi := 0) (by omega) (by omega)) hV5
    have hR6 : RepU X (sI S5 57 (nN T1 + 1) (nI (xP X (i + 3 + ee + 1)))) (nU T) (i + 3) ee := RepU.ag (Ag.rf.w (lo := 0) (hi := 0) (by omega) (by omega)) hR5
    have hN6 : nN (sI S5 57 (nN T1 + 1) (nI (xP X (i + 3 + ee + 1)))) = nN T1 + 2 := by rw [nN_w (by omega), hN5]
    generalize sI S5 57 (nN T1 + 1) (nI (xP X (i + 3 + ee + 1))) = S6 at *
    have hj6 := hG6.1.1
    rw [ep]
    -- behind a fault
    have bd : ∀ S7 w ej B, Zb X ej T1 B S7 → B < 8190 → i ≤ ej → ej ≤ xn X → B + 1 ≤ 2 * ej + 4 * (m + 1) + 4 → wp (gd (inb (nI (nN T1 + 1)) 8200) <| stK (sJ S7 56 (nN T1 + 1) w) fun T25 => bi (RR nf (d + 7) 20 T25 [(40 : Int32)] []) fun r26 l26 T26 => bi (RR nf (d + 7) 35 T26 [nI (21 - m)] []) fun r27 l27 T27 => gd (inb (nI (nN T1 + 1)) 8200) <| stK (sI T27 52 (nN T1 + 1) r27) fun T28 => bi (RR nf (d + 7) 20 T28 [(41 : Int32)] []) fun r29 l29 T29 => gd (inb (nI (nN T1)) 8200) <| stK (sI T29 52 (nN T1) (nI (nN T1 + 1))) fun T30 => some (nI (nN T1), 0, T30)) (fun r2 _ T2 => EE X T1 i (m + 1) ej r2 T2) := by
      intro S7 w ej B h7 hB q1 q2 q3
      refine wp_gd hnB ?_
      refine wp_st ?_
      have h8 := h7.wj (g := 56) (j := nN T1 + 1) (v := w) (by decide)
      refine wp_be (q_nd1 h8.bd _) ?_
      refine wp_bi (b_expr (d := d + 3) hnf h8 (by omega) _) ?_
      intro r l S9 h9
      refine wp_gd hnB ?_
      refine wp_st ?_
      have h10 := h9.2.w (g := 52) (j := nN T1 + 1) (v := r) (by omega)
      refine wp_be (q_nd1 h10.bd _) ?_
      refine wp_gd hnA ?_
      refine wp_st ?_
      exact wp_some ⟨q1, q2, hnA, (h10.w (by omega)).le q3⟩
    refine x_name (d := d + 4) hX hG6 (fun k2 hj7 => ?_) (fun w S7 hz => ?_)
    · refine wp_gd hnB ?_
      refine wp_st ?_
      have hG7 := (hG6.adv hX hj7).wj (g := 56) (j := nN T1 + 1) (v := xN X (i + 3 + ee + 1)) (by omega)
      have hF7 := hF6.adv.wj (j := nN T1 + 1) (v := xN X (i + 3 + ee + 1)) (by omega)
      have hE7' := hE6.adv.w56 (v := xN X (i + 3 + ee + 1))
      have hD7 := hD6.adv.wjo (g := 56) (j := nN T1 + 1) (v := xN X (i + 3 + ee + 1)) (by omega)
      have hV7 : RepU X (sJ (advS S6) 56 (nN T1 + 1) (xN X (i + 3 + ee + 1))) v (i + 1) 1 := RepU.ag (Ag.rf.adv.wj (lo := 0) (hi := 0) (by omega)) hV6
      have hR7 : RepU X (sJ (advS S6) 56 (nN T1 + 1) (xN X (i + 3 + ee + 1))) (nU T) (i + 3) ee := RepU.ag (Ag.rf.adv.wj (lo := 0) (hi := 0) (by omega)) hR6
      have hN7 : nN (sJ (advS S6) 56 (nN T1 + 1) (xN X (i + 3 + ee + 1))) = nN T1 + 2 := by rw [nN_wj, nN_adv, hN6]
      generalize sJ (advS S6) 56 (nN T1 + 1) (xN X (i + 3 + ee + 1)) = S7 at *
      refine x_need (d := d + 3) hX 42 hG7 rfl (by omega) (by omega) (fun k42 hj8 => ?_) (fun S8 hz => ?_)
      · have hG8 := hG7.adv hX hj8
        refine x_sub (hE7 _ _ hG8 (by rw [nN_adv, hN7]; omega)) (fun t j r l S9 h9 => ?_) (fun ej r l S9 h9 => ?_)
        · obtain ⟨b1, b2, b3, b4, b5, q, b6, b7, b8, b9⟩ := h9
          have hb9 := b2.1.1
          rw [nN_adv, hN7] at b4 b5 b7
          refine wp_gd hnB ?_
          refine wp_st ?_
          have hN8 : nN (advS S7) = nN T1 + 2 := by rw [nN_adv, hN7]
          have hG9 := b2.w (g := 52) (j := nN T1 + 1) (v := r) (by omega)
          have hF9 := (hF7.adv.tr b3).w (g := 52) (j := nN T1 + 1) (v := r) (by omega) (by omega)
          have hE9 := (hE7'.adv.fe b3 (by omega)).w52 (v := r)
          have hD9 := (hD7.adv.fe b3 (by omega)).wo (g := 52) (j := nN T1 + 1) (v := r) (by omega)
          have hV9 : RepU X (sI S9 52 (nN T1 + 1) r) v (i + 1) 1 := RepU.ag (Ag.rf.w (lo := 0) (hi := 0) (by omega) (by omega)) (RepU.ag b3.2.1 (RepU.ag (Ag.rf.adv (lo := 0) (hi := 0)) hV7))
          have hR9 : RepU X (sI S9 52 (nN T1 + 1) r) (nU T) (i + 3) ee := RepU.ag (Ag.rf.w (lo := 0) (hi := 0) (by omega) (by omega)) (RepU.ag b3.2.1 (RepU.ag (Ag.rf.adv (lo := 0) (hi := 0)) hR7))
          have hM9 : RepM X (sI S9 52 (nN T1 + 1) r) t (nN T1 + 2) (nN S9) r := RepM.ag (Ag.rf.w (by omega) (Or.inl (by omega))) b4
          have hN9 : nN (sI S9 52 (nN T1 + 1) r) = nN S9 := by rw [nN_w (by omega)]
          generalize hS9 : sI S9 52 (nN T1 + 1) r = S10 at *
          refine x_need (d := d + 3) hX 43 hG9 rfl (by omega) (by omega) (fun k43 hj9 => ?_) (fun S11 hz => ?_)
          · refine wp_gd hnA ?_
            refine wp_st ?_
            refine wp_some ?_
            have hD10 := hD9.adv.w52 (v := nI (nN T1 + 1))
            have hE10 := hE9.adv.wo (g := 52) (j := nN T1) (v := nI (nN T1 + 1)) (by omega)
            have hN10 : nN (sI (advS S10) 52 (nN T1) (nI (nN T1 + 1))) = nN S9 := by rw [nN_w (by omega), nN_adv, hN9]
            refine ⟨by omega, (hG9.adv hX hj9).w (by omega), hF9.adv.w (by omega) (Nat.le_refl _), ?_, by rw [hN10]; omega, nN T1, rfl, Nat.le_refl _, by rw [hN10]; omega, hD10.2.1⟩
            rw [hN10, RepM_n]
            unfold RpN
            rw [if_neg (by decide), if_neg (by decide), if_neg (by decide), if_neg (by decide), if_neg (by decide), if_neg (by decide), if_pos rfl]
            have ag : ∀ lo hi, nN T1 < lo → Ag S10 (sI (advS S10) 52 (nN T1) (nI (nN T1 + 1))) lo hi := fun lo hi h => Ag.rf.adv.w (by omega) (Or.inl h)
            refine ⟨nU T, v, r, rfl, by omega, hD10.2.1, hD10.2.2.2.2.1, RepU.ag (ag (nN T1 + 1) 0 (by omega)) hV9, ⟨hD10.2.2.2.2.2.2.1, hD10.2.2.2.2.2.2.2.1⟩, hD10.2.2.2.2.2.2.2.2.1, hD10.2.2.2.2.2.2.2.2.2.1, RepU.ag (ag (nN T1 + 1) 0 (by omega)) hR9, ?_⟩
            rw [if_pos k49]
            exact ⟨hD10.1, hD10.2.2.1, by omega, hE10.2.1, ⟨hE10.2.2.2.2.2.2.1, hE10.2.2.2.2.2.2.2.1⟩, hE10.2.2.1, RepM.ag (ag _ _ (by omega)) hM9⟩
          · refine wp_gd hnA ?_
            refine wp_st ?_
            exact wp_some ⟨by omega, hb9, hnA, ((hz.fz hF9.1).w (by omega)).le (by omega)⟩
        · obtain ⟨b1, b2, b3, b4⟩ := h9
          refine wp_gd hnB ?_
          refine wp_st ?_
          have h10 := (b4.fz hF7.adv.1).w (g := 52) (j := nN T1 + 1) (v := r) (by omega)
          refine wp_be (q_nd1 h10.bd _) ?_
          refine wp_gd hnA ?_
          refine wp_st ?_
          exact wp_some ⟨by omega, b2, hnA, (h10.w (by omega)).le (by omega)⟩
      · have hj8 := hG7.1.1
        refine wp_bi (b_expr (d := d + 3) hnf (hz.fz hF7.1) (by omega) _) ?_
        intro r l S9 h9
        refine wp_gd hnB ?_
        refine wp_st ?_
        have h10 := h9.2.w (g := 52) (j := nN T1 + 1) (v := r) (by omega)
        refine wp_be (q_nd1 h10.bd _) ?_
        refine wp_gd hnA ?_
        refine wp_st ?_
        exact wp_some ⟨by omega, hj8, hnA, (h10.w (by omega)).le (by omega)⟩
    · exact bd S7 w (i + 3 + ee + 1) (nN S6) (hz.fz hF6.1) (by omega) (by omega) hj6 (by omega)
  · rw [if_neg k49]
    refine wp_be (q_tkN hX hG3.1 hG3.2.1 49 rfl k49 (by omega) (by omega)) ?_
    refine wp_t rfl ?_
    refine wp_gd hnA ?_
    refine wp_st ?_
    have hG4 := hG3.w (g := 61) (j := nN T1) (v := nI (xP X (i + 3 + ee))) (by omega)
    have hF4 := hF3.w (g := 61) (j := nN T1) (v := nI (xP X (i + 3 + ee))) (by omega) (Nat.le_refl _)
    have hD4 := hD3.w61 (v := nI (xP X (i + 3 + ee)))
    have hV4 : RepU X (sI S3 61 (nN T1) (nI (xP X (i + 3 + ee)))) v (i + 1) 1 := RepU.ag (Ag.rf.w (lo := 0) (hi := 0) (by omega) (by omega)) hV3
    have hR4 : RepU X (sI S3 61 (nN T1) (nI (xP X (i + 3 + ee)))) (nU T) (i + 3) ee := RepU.ag (Ag.rf.w (lo := 0) (hi := 0) (by omega) (by omega)) hR3
    have hN4 : nN (sI S3 61 (nN T1) (nI (xP X (i + 3 + ee)))) = nN T1 + 1 := by rw [nN_w (by omega), hN3]
    generalize sI S3 61 (nN T1) (nI (xP X (i + 3 + ee))) = S4 at *
    refine x_need (d := d + 3) hX 40 hG4 rfl (by omega) (by omega) (fun k40 hj => ?_) (fun S5 hz => ?_)
    · have hG5 := hG4.adv hX hj
      refine x_asub (x_args (d := d + 1) hX hnf hm hE 41 125 rfl (Or.inr rfl) hG5 (by rw [nN_adv, hN4]; omega) (n := nN T1) (by rw [nN_adv, hN4]; omega)) (fun t j r l S7 h7 => ?_) (fun ej r l S7 h7 => ?_)
      · obtain ⟨b1, b2, b3, b4, b5, z, b6, b7, b8⟩ := h7
        rw [nN_adv, hN4] at b5 b6
        have hD6 := hD4.adv
        have b9 := b7 rfl hD6.2.2.1
        have hN7 := b3.2.2.2.2.2.1
        rw [nN_adv, hN4] at hN7
        have hD7 := hD6.fa b3 (by rw [nN_adv, hN4]; omega) (by rw [nN_adv, hN4]; omega) b9 b4
        have agU : Ag S4 S7 0 0 := ⟨fun g j _ _ _ h1 h2 => by omega, fun j h1 h2 => by omega, by have := b3.2.2.2.1; rw [nU_adv] at this; exact this, fun j' hj' => by
          have v := b3.2.2.2.2.1 j' (by rw [nU_adv]; exact hj')
          rw [advS_j (by omega), advS_i (by omega)] at v
          exact v⟩
        refine wp_some ?_
        refine ⟨by omega, b2, b3.fe hF4.adv (Nat.le_refl _) (Or.inl rfl) (by rw [nN_adv, hN4]; omega), ?_, by omega, nN T1, rfl, Nat.le_refl _, by omega, hD7.2.1⟩
        rw [RepM_n]
        unfold RpN
        rw [if_neg (by decide), if_neg (by decide), if_neg (by decide), if_neg (by decide), if_neg (by decide), if_neg (by decide), if_pos rfl]
        refine ⟨nU T, v, z, rfl, by omega, hD7.2.1, hD7.2.2.2.2.1, RepU.ag agU hV4, ⟨hD7.2.2.2.2.2.2.1, hD7.2.2.2.2.2.2.2.1⟩, hD7.2.2.2.2.2.2.2.2.1, hD7.2.2.2.2.2.2.2.2.2.1, RepU.ag agU hR4, ?_⟩
        rw [if_neg k49]
        refine ⟨hD7.1, hD7.2.2.2.2.2.2.2.2.2.2, hD7.2.2.1, ?_, b6⟩
        rw [hD7.2.2.2.1]; congr 1; omega
      · obtain ⟨b1, b2, b3⟩ := h7
        exact wp_some ⟨by omega, b2, hnA, (b3.fz hF4.adv.1).le (by omega)⟩
    · refine wp_bi (b_args (d := d + 2) hnf hz hnA _ _) ?_
      intro r l S7 h7
      exact wp_some ⟨by omega, hj2, hnA, (h7.fz hF4.1).le (by rw [hN4]; omega)⟩
set_option maxHeartbeats 4000000 in
theorem x_new (hX : LX X) (hnf : 5000 ≤ nf) (hm : m ≤ 20) (hE : ∀ T i, Gd X T i → nN T ≤ 2 * i → wp (RR nf (d + 6) 35 T [nI (21 - m)] []) (fun r _ T' => EQ X T i m (pEx (xK X) m 0 i) r T')) (hE7 : ∀ T i, Gd X T i → nN T ≤ 2 * i → wp (RR nf (d + 7) 35 T [nI (21 - m)] []) (fun r _ T' => EQ X T i m (pEx (xK X) m 0 i) r T')) (hG : Gd X T1 (i + 1)) (hb : nN T1 ≤ 2 * (i + 1)) : wp (RR nf (d + 8) 40 T1 [nI (xP X i), nI (20 - m)] []) (fun r _ T' => EQ X T1 i (m + 1) (ek (xK X) 4 (i + 1) (ek (xK X) 3 (i + 2) (if xK X (i + 3 + rgs (xK X) 3 (i + 3)) = 49 then ek (xK X) 2 (i + 3 + rgs (xK X) 3 (i + 3) + 1) (ek (xK X) 42 (i + 3 + rgs (xK X) 3 (i + 3) + 2) (eb (pEx (xK X) m 0 (i + 3 + rgs (xK X) 3 (i + 3) + 3)) fun a j => ek (xK X) 43 j (.ok (tD 7 i (rgs (xK X) 3 (i + 3)) a tZ, j + 1)))) else ek (xK X) 40 (i + 3 + rgs (xK X) 3 (i + 3)) (eb (pArgs (xK X) (pEx (xK X) m 0) 41 4001 0 (i + 3 + rgs (xK X) 3 (i + 3) + 1)) fun a j => .ok (tD 7 i (rgs (xK X) 3 (i + 3)) a tZ, j))))) r T') := by
  have hx := hX.1
  have hi1 := hG.1.1
  have hb1 : nN T1 < 8200 := by omega
  have hnA : inb (nI (nN T1)) 8200 := nin (by omega) (by omega)
  rw [e_Model_readNew]
  unfold rb_Model_readNew
  refine wp_be (q_node hG.2.2.1 hb1 _ _) ?_
  have hG1 := hG.nd (a := nN T1) (k := 6) (p := nI (xP X i)) hb1
  have hF1 : Fe T1 (ndS T1 (nN T1) 6 (nI (xP X i))) := Fe.rf.nd hb1
  have hD1 : ND (ndS T1 (nN T1) 6 (nI (xP X i))) (nN T1) 6 (nI (xP X i)) (-1) (-1) (-1) (-1) (T1.2 56 (nN T1)) (T1.1 57 (nN T1)) (T1.1 58 (nN T1)) 0 (T1.1 61 (nN T1)) := ND.nd
  have hN1 : nN (ndS T1 (nN T1) 6 (nI (xP X i))) = nN T1 + 1 := nN_nd hb1
  generalize ndS T1 (nN T1) 6 (nI (xP X i)) = S1 at *
  refine x_region (d := d + 4) hX hG1 (fun k4 S2 g1 g2 g3 g4 g5 g6 g7 => ?_) (fun S2 hz => ?_)
  · have g1 : Gd X S2 (i + 2) := g1
    refine wp_gd hnA ?_
    refine wp_st ?_
    rw [nc (m := nN T1) (by omega)]
    have hG2 := g1.w (g := 54) (j := nN T1) (v := nI (nU S1)) (by omega)
    have hF2 := (g6 T1 hF1).w (g := 54) (j := nN T1) (v := nI (nU S1)) (by omega) (Nat.le_refl _)
    have hD2 := (g7 _ _ _ _ _ _ _ _ _ _ _ _ hD1).w54 (v := nI (nU S1))
    have hV2 : RepU X (sI S2 54 (nN T1) (nI (nU S1))) (nU S1) (i + 1) 1 := RepU.ag (Ag.rf.w (lo := 0) (hi := 0) (by omega) (by omega)) g4
    have hN2 : nN (sI S2 54 (nN T1) (nI (nU S1))) = nN T1 + 1 := by rw [nN_w (by omega), g3, hN1]
    generalize sI S2 54 (nN T1) (nI (nU S1)) = S3 at *
    have t := hX.2.2.2.2.1 (i + 2) hG2.1.1
    have hj2 := hG2.1.1
    by_cases k3 : xK X (i + 2) = 3
    · refine wp_t (by rw [hG2.1.2.2.2.1]; exact (srtK_ti _ (okK_lt t.1)).mpr k3) ?_
      have hj := hG2.lt hX (by omega)
      unfold ek
      rw [if_pos k3]
      unfold rj_Model_readNew_30
      refine wp_gd hnA ?_
      refine wp_st ?_
      refine wp_gd hnA ?_
      refine wp_st ?_
      rw [nc (m := nN T1) (by omega), hG2.1.2.2.2.2.2.2.2.2 (Or.inr (Or.inl k3)), show (sJ S3 56 (nN T1) (xN X (i + 2))).1 3 0 = S3.1 3 0 from rfl, hG2.pl]
      have hG4 : Gd X (sI (sJ S3 56 (nN T1) (xN X (i + 2))) 57 (nN T1) (nI (xP X (i + 2)))) (i + 2) := (hG2.wj (by omega)).w (by omega)
      have hF4 : Fe T1 (sI (sJ S3 56 (nN T1) (xN X (i + 2))) 57 (nN T1) (nI (xP X (i + 2)))) := (hF2.wj (Nat.le_refl _)).w (by omega) (Nat.le_refl _)
      have hD4 := (hD2.w56 (v := xN X (i + 2))).w57 (v := nI (xP X (i + 2)))
      have hV4 : RepU X (sI (sJ S3 56 (nN T1) (xN X (i + 2))) 57 (nN T1) (nI (xP X (i + 2)))) (nU S1) (i + 1) 1 := RepU.ag ((Ag.rf.wj (lo := 0) (hi := 0) (by omega)).w (by omega) (by omega)) hV2
      have hN4 : nN (sI (sJ S3 56 (nN T1) (xN X (i + 2))) 57 (nN T1) (nI (xP X (i + 2)))) = nN T1 + 1 := by rw [nN_w (by omega), nN_wj, hN2]
      generalize sI (sJ S3 56 (nN T1) (xN X (i + 2))) 57 (nN T1) (nI (xP X (i + 2))) = S4 at *
      refine wp_be (q_bad0 hG4.2.1) ?_
      refine wp_t rfl ?_
      refine wp_be (q_adv hX hG4.1) ?_
      have := x_new61 (T := advS S4) (T1 := T1) (i := i) (m := m) (d := d) hX hnf hm hE hE7 (hG4.adv hX hj) hF4.adv (by rw [nN_adv, hN4]) hb hD4.adv (RepU.ag (Ag.rf.adv (lo := 0) (hi := 0)) hV4)
      unfold ek at this
      exact this
    · refine wp_f (by rw [hG2.1.2.2.2.1]; exact fun q => k3 ((srtK_ti _ (okK_lt t.1)).mp q)) ?_
      unfold ek
      rw [if_neg k3]
      refine wp_be (q_wrong0 hG2.2.1) ?_
      refine wp_mono (b_new30 hnf (hG2.fail hF2.1 (Nat.le_refl _)) hnA) ?_
      intro r l S5 h5
      exact ⟨by omega, hj2, h5.1, h5.2.le (by omega)⟩
  · refine wp_gd hnA ?_
    refine wp_st ?_
    have h3 := (hz.fz hF1.1).w (g := 54) (j := (nI (nN T1)).toNatClampNeg) (v := 0) (by omega)
    have fin : ∀ S, Zb X (i + 1) T1 (nN S1) S → wp (rj_Model_readNew_30 (RR nf (d + 7)) nf S (nI (20 - m)) (nI (nN T1))) (fun r2 _ T2 => EE X T1 i (m + 1) (i + 1) r2 T2) := by
      intro S hS
      refine wp_mono (b_new30 hnf hS hnA) ?_
      intro r l S5 h5
      exact ⟨by omega, hi1, h5.1, h5.2.le (by omega)⟩
    refine wp_if (fun _ => fin _ h3) (fun _ => ?_)
    refine wp_be (q_wrong1 h3.bd) ?_
    exact fin _ h3
end NX
