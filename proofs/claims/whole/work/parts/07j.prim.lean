/-! PRIMARY, whole -/
section QX
variable {nf d : Nat} {T T0 T1 T2 : gSt} {X : Lx} {e B i m n : Nat}
abbrev IHE (X : Lx) (nf m D : Nat) : Prop := ∀ T i, Gd X T i → nN T ≤ 2 * i → wp (RR nf D 35 T [nI (21 - m)] []) (fun r _ T' => EQ X T i m (pEx (xK X) m 0 i) r T')
abbrev IHT (X : Lx) (nf m D : Nat) : Prop := ∀ T i, Gd X T i → nN T ≤ 2 * i → wp (RR nf D 36 T [nI (21 - m)] []) (fun r _ T' => EQ X T i m (pEx (xK X) m 1 i) r T')
/-- the same, seen from a state with the same nodes ahead of it -/
theorem EQ.base {res : ER} {r : Int32} (hF : Fe T T1) (hN : nN T1 = nN T) (h : EQ X T1 i m res r T2) : EQ X T i m res r T2 := by
  cases res with
  | error e => exact ⟨h.1, h.2.1, h.2.2.1, h.2.2.2.fz hF.1⟩
  | ok tj =>
    obtain ⟨t, j⟩ := tj
    obtain ⟨b1, b2, b3, b4, b5, q, b6, b7, b8, b9⟩ := h
    rw [hN] at b4 b5 b7
    exact ⟨b1, b2, hF.tr b3, b4, b5, q, b6, b7, b8, b9⟩
theorem b_365 (hnf : 5000 ≤ nf) {x1 x2 y0 : Int32} (h : Zb X e T0 B T) (hB : B < 8190) : wp (rj_Model_primary_365 (RR nf (d + 8)) nf T x1 x2 y0) (fun r _ T' => inb r 8200 ∧ Zb X e T0 (B + 2) T') := by
  have hb := h.2.2.2.2
  unfold rj_Model_primary_365
  refine wp_be (q_node h.2.2.2.1 (by omega) _ _) ?_
  have h1 := h.nd (k := y0) (p := x2) (by omega)
  refine wp_be (q_nd1 h1.bd _) ?_
  refine wp_bi (b_expr (d := d + 4) hnf h1 (by omega) _) ?_
  intro r l S h2
  refine wp_gd (nin (by omega) (by omega)) ?_
  refine wp_st ?_
  have h3 := h2.2.w (g := 52) (j := (nI (nN T)).toNatClampNeg) (v := r) (by omega)
  refine wp_be (q_nd1 h3.bd _) ?_
  exact wp_some ⟨nin (by omega) (by omega), h3⟩
theorem x_365 (hX : LX X) (hnf : 5000 ≤ nf) (hm : m ≤ 20) (hE : IHE X nf m (d + 8)) (hG : Gd X T1 (i + 1)) (hF : Fe T T1) (hN : nN T1 = nN T) (hb : nN T ≤ 2 * i) {y0 : Int32} (hy : xK X i = 31 ∧ y0 = 11 ∨ xK X i = 32 ∧ y0 = 12) : wp (rj_Model_primary_365 (RR nf (d + 8)) nf T1 (nI (20 - m)) (nI (xP X i)) y0) (fun r _ T' => EQ X T i (m + 1) (ek (xK X) 42 (i + 1) (eb (pEx (xK X) m 0 (i + 2)) fun a j => ek (xK X) 43 j (.ok (tD 8 i 0 a tZ, j + 1)))) r T') := by
  have hx := hX.1
  have hi1 := hG.1.1
  have hb1 : nN T < 8200 := by omega
  have hnA : inb (nI (nN T)) 8200 := nin (by omega) (by omega)
  have ep : nI (20 - m) + 1 = nI (21 - m) := by rw [nI_1]; congr 1; omega
  unfold rj_Model_primary_365
  refine wp_be (q_node hG.2.2.1 (by omega) _ _) ?_
  rw [hN, nc (m := nN T) (by omega), ep]
  have hG1 := hG.nd (a := nN T1) (k := y0) (p := nI (xP X i)) (by omega)
  have hF1 := hF.nd (k := y0) (p := nI (xP X i)) (by omega)
  have hD1 : ND (ndS T1 (nN T1) y0 (nI (xP X i))) (nN T1) y0 (nI (xP X i)) (-1) (-1) (-1) (-1) _ _ _ _ _ := ND.nd
  have hN1 : nN (ndS T1 (nN T1) y0 (nI (xP X i))) = nN T + 1 := by rw [nN_nd (by omega), hN]
  rw [hN] at hG1 hF1 hD1 hN1
  generalize ndS T1 (nN T) y0 (nI (xP X i)) = S1 at *
  refine x_need (d := d + 4) hX 42 hG1 rfl (by omega) (by omega) (fun k42 hj => ?_) (fun S2 hz => ?_)
  · have hG2 := hG1.adv hX hj
    refine x_sub (hE _ _ hG2 (by rw [nN_adv, hN1]; omega)) (fun t j r l S3 h3 => ?_) (fun ej r l S3 h3 => ?_)
    · obtain ⟨b1, b2, b3, b4, b5, q, b6, b7, b8, b9⟩ := h3
      have hj3 := b2.1.1
      rw [nN_adv, hN1] at b4 b5 b7
      refine wp_gd hnA ?_
      refine wp_st ?_
      have hN2 : nN (advS S1) = nN T + 1 := by rw [nN_adv, hN1]
      have hG3 := b2.w (g := 52) (j := nN T) (v := r) (by omega)
      have hF3 := (hF1.adv.tr b3).w (g := 52) (j := nN T) (v := r) (by omega) (Nat.le_refl _)
      have hD3 := (hD1.adv.fe b3 (by omega)).w52 (v := r)
      have hM3 : RepM X (sI S3 52 (nN T) r) t (nN T + 1) (nN S3) r := RepM.ag (Ag.rf.w (by omega) (Or.inl (by omega))) b4
      have hN3 : nN (sI S3 52 (nN T) r) = nN S3 := by rw [nN_w (by omega)]
      generalize sI S3 52 (nN T) r = S4 at *
      refine x_need (d := d + 4) hX 43 hG3 rfl (by omega) (by omega) (fun k43 hj4 => ?_) (fun S5 hz => ?_)
      · refine wp_some ?_
        have hD4 := hD3.adv
        have hN4 : nN (advS S4) = nN S3 := by rw [nN_adv, hN3]
        refine ⟨by omega, hG3.adv hX hj4, hF3.adv, ?_, by rw [hN4]; omega, nN T, rfl, Nat.le_refl _, by rw [hN4]; omega, hD4.2.1⟩
        rw [hN4, RepM_n]
        unfold RpN
        rw [if_neg (by decide), if_neg (by decide), if_neg (by decide), if_neg (by decide), if_neg (by decide), if_neg (by decide), if_neg (by decide), if_pos rfl]
        refine ⟨r, rfl, by omega, hD4.2.1, hD4.2.2.1, ?_⟩
        rw [if_neg (by omega), if_neg (by omega)]
        refine ⟨?_, RepM.ag Ag.rf.adv hM3⟩
        rcases hy with ⟨hy1, hy2⟩ | ⟨hy1, hy2⟩
        · rw [if_pos hy1, hD4.1, hy2]
        · rw [if_neg (by omega), hD4.1, hy2]
      · exact wp_some ⟨by omega, hj3, hnA, (hz.fz hF3.1).le (by omega)⟩
    · obtain ⟨b1, b2, b3, b4⟩ := h3
      refine wp_gd hnA ?_
      refine wp_st ?_
      have h10 := (b4.fz hF1.adv.1).w (g := 52) (j := nN T) (v := r) (by omega)
      refine wp_be (q_nd1 h10.bd _) ?_
      exact wp_some ⟨by omega, b2, hnA, h10.le (by omega)⟩
  · refine wp_bi (b_expr (d := d + 4) hnf (hz.fz hF1.1) (by omega) _) ?_
    intro r l S9 h9
    refine wp_gd hnA ?_
    refine wp_st ?_
    have h10 := h9.2.w (g := 52) (j := nN T) (v := r) (by omega)
    refine wp_be (q_nd1 h10.bd _) ?_
    exact wp_some ⟨by omega, hi1, hnA, h10.le (by omega)⟩
/-- behind a fault in cell or row -/
theorem b_196 (hnf : 5000 ≤ nf) {x1 x3 r60 : Int32} {a : Nat} (ha : a < 8200) (h : Zb X e T0 B T) (hB : B < 8190) : wp (gd (inb (nI a) 8200) <| stK (sI T 58 (nI a).toNatClampNeg r60) fun T61 => bi (RR nf (d + 8) 20 T61 [(40 : Int32)] []) fun r62 l62 T62 => bi (RR nf (d + 8) 35 T62 [x1 + (1 : Int32)] []) fun r63 l63 T63 => gd (inb (nI a) 8200) <| stK (sI T63 52 (nI a).toNatClampNeg r63) fun T64 => if x3 = (0 : Int32) then (bi (RR nf (d + 8) 20 T64 [(41 : Int32)] []) fun r66 l66 T66 => some (nI a, 0, T66)) else (bi (RR nf (d + 8) 20 T64 [(44 : Int32)] []) fun r68 l68 T68 => bi (RR nf (d + 8) 35 T68 [x1 + (1 : Int32)] []) fun r69 l69 T69 => gd (inb (nI a) 8200) <| stK (sI T69 53 (nI a).toNatClampNeg r69) fun T70 => bi (RR nf (d + 8) 20 T70 [(41 : Int32)] []) fun r71 l71 T71 => some (nI a, 0, T71))) (fun r _ T' => inb r 8200 ∧ Zb X e T0 (B + 2) T') := by
  have hnA : inb (nI a) 8200 := nin (by omega) (by omega)
  refine wp_gd hnA ?_
  refine wp_st ?_
  have h1 := h.w (g := 58) (j := (nI a).toNatClampNeg) (v := r60) (by omega)
  refine wp_be (q_nd1 h1.bd _) ?_
  refine wp_bi (b_expr (d := d + 4) hnf h1 (by omega) _) ?_
  intro r l S h2
  refine wp_gd hnA ?_
  refine wp_st ?_
  have h3 := h2.2.w (g := 52) (j := (nI a).toNatClampNeg) (v := r) (by omega)
  refine wp_if (fun _ => ?_) (fun _ => ?_)
  · refine wp_be (q_nd1 h3.bd _) ?_
    exact wp_some ⟨hnA, h3.le (by omega)⟩
  · refine wp_be (q_nd1 h3.bd _) ?_
    refine wp_bi (b_expr (d := d + 4) hnf h3 (by omega) _) ?_
    intro r l S h4
    refine wp_gd hnA ?_
    refine wp_st ?_
    have h5 := h4.2.w (g := 53) (j := (nI a).toNatClampNeg) (v := r) (by omega)
    refine wp_be (q_nd1 h5.bd _) ?_
    exact wp_some ⟨hnA, h5⟩
set_option maxHeartbeats 4000000 in
theorem x_196 (hX : LX X) (hnf : 5000 ≤ nf) (hm : m ≤ 20) (hE : IHE X nf m (d + 8)) (hG : Gd X T1 (i + 1)) (hF : Fe T T1) (hN : nN T1 = nN T) (hb : nN T ≤ 2 * i) {x3 y0 : Int32} (hy : xK X i = 29 ∧ y0 = 8 ∧ x3 = 0 ∨ xK X i = 30 ∧ y0 = 9 ∧ x3 = 1) : wp (rj_Model_primary_196 (RR nf (d + 8)) nf T1 (nI (20 - m)) (nI (xP X i)) x3 y0) (fun r _ T' => EQ X T i (m + 1) (ek (xK X) 4 (i + 1) (ek (xK X) 42 (i + 2) (eb (pEx (xK X) m 0 (i + 3)) fun a j => if xK X i = 29 then ek (xK X) 43 j (.ok (tD 8 i 0 a tZ, j + 1)) else ek (xK X) 47 j (eb (pEx (xK X) m 0 (j + 1)) fun b j2 => ek (xK X) 43 j2 (.ok (tD 8 i 0 a b, j2 + 1)))))) r T') := by
  have hx := hX.1
  have hi1 := hG.1.1
  have hb1 : nN T < 8200 := by omega
  have hnA : inb (nI (nN T)) 8200 := nin (by omega) (by omega)
  have ep : nI (20 - m) + 1 = nI (21 - m) := by rw [nI_1]; congr 1; omega
  unfold rj_Model_primary_196
  refine wp_be (q_node hG.2.2.1 (by omega) _ _) ?_
  rw [hN]
  have hG1 := hG.nd (a := nN T1) (k := y0) (p := nI (xP X i)) (by omega)
  have hF1 := hF.nd (k := y0) (p := nI (xP X i)) (by omega)
  have hD1 : ND (ndS T1 (nN T1) y0 (nI (xP X i))) (nN T1) y0 (nI (xP X i)) (-1) (-1) (-1) (-1) (T1.2 56 (nN T1)) (T1.1 57 (nN T1)) (T1.1 58 (nN T1)) 0 (T1.1 61 (nN T1)) := ND.nd
  have hN1 : nN (ndS T1 (nN T1) y0 (nI (xP X i))) = nN T + 1 := by rw [nN_nd (by omega), hN]
  rw [hN] at hG1 hF1 hD1 hN1
  generalize ndS T1 (nN T) y0 (nI (xP X i)) = S1 at *
  refine x_region (d := d + 5) hX hG1 (fun k4 S2 g1 g2 g3 g4 g5 g6 g7 => ?_) (fun S2 hz => ?_)
  · refine wp_gd hnA ?_
    refine wp_st ?_
    rw [nc (m := nN T) (by omega), ep]
    have hG2 := g1.w (g := 58) (j := nN T) (v := nI (nU S1)) (by omega)
    have hF2 := (g6 T hF1).w (g := 58) (j := nN T) (v := nI (nU S1)) (by omega) (Nat.le_refl _)
    have hD2 := (g7 _ _ _ _ _ _ _ _ _ _ _ _ hD1).w58 (v := nI (nU S1))
    have hV2 : RepU X (sI S2 58 (nN T) (nI (nU S1))) (nU S1) (i + 1) 1 := RepU.ag (Ag.rf.w (lo := 0) (hi := 0) (by omega) (by omega)) g4
    have hN2 : nN (sI S2 58 (nN T) (nI (nU S1))) = nN T + 1 := by rw [nN_w (by omega), g3, hN1]
    generalize sI S2 58 (nN T) (nI (nU S1)) = S3 at *
    have hj2 := hG2.1.1
    refine x_need (d := d + 4) hX 42 hG2 rfl (by omega) (by omega) (fun k42 hj => ?_) (fun S4 hz => ?_)
    · have hG3 := hG2.adv hX hj
      refine x_sub (hE _ _ hG3 (by rw [nN_adv, hN2]; omega)) (fun t j r l S5 h5 => ?_) (fun ej r l S5 h5 => ?_)
      · obtain ⟨b1, b2, b3, b4, b5, q, b6, b7, b8, b9⟩ := h5
        have hj5 := b2.1.1
        have hN3 : nN (advS S3) = nN T + 1 := by rw [nN_adv, hN2]
        rw [hN3] at b4 b5 b7
        refine wp_gd hnA ?_
        refine wp_st ?_
        have hG5 := b2.w (g := 52) (j := nN T) (v := r) (by omega)
        have hF5 := (hF2.adv.tr b3).w (g := 52) (j := nN T) (v := r) (by omega) (Nat.le_refl _)
        have hD5 := (hD2.adv.fe b3 (by omega)).w52 (v := r)
        have hV5 : RepU X (sI S5 52 (nN T) r) (nU S1) (i + 1) 1 := RepU.ag (Ag.rf.w (lo := 0) (hi := 0) (by omega) (by omega)) (RepU.ag b3.2.1 (RepU.ag (Ag.rf.adv (lo := 0) (hi := 0)) hV2))
        have hM5 : RepM X (sI S5 52 (nN T) r) t (nN T + 1) (nN S5) r := RepM.ag (Ag.rf.w (by omega) (Or.inl (by omega))) b4
        have hN5 : nN (sI S5 52 (nN T) r) = nN S5 := by rw [nN_w (by omega)]
        generalize sI S5 52 (nN T) r = S6 at *
        rcases hy with ⟨hy1, hy2, hy3⟩ | ⟨hy1, hy2, hy3⟩
        · rw [if_pos hy1]
          refine wp_t (show x3 = 0 from hy3) ?_
          refine x_need (d := d + 4) hX 43 hG5 rfl (by omega) (by omega) (fun k43 hj6 => ?_) (fun S7 hz => ?_)
          · refine wp_some ?_
            have hD6 := hD5.adv
            have hN6 : nN (advS S6) = nN S5 := by rw [nN_adv, hN5]
            refine ⟨by omega, hG5.adv hX hj6, hF5.adv, ?_, by rw [hN6]; omega, nN T, rfl, Nat.le_refl _, by rw [hN6]; omega, hD6.2.1⟩
            rw [hN6, RepM_n]
            unfold RpN
            rw [if_neg (by decide), if_neg (by decide), if_neg (by decide), if_neg (by decide), if_neg (by decide), if_neg (by decide), if_neg (by decide), if_pos rfl]
            refine ⟨r, rfl, by omega, hD6.2.1, hD6.2.2.1, ?_⟩
            rw [if_pos hy1]
            exact ⟨hD6.1.trans hy2, RepM.ag Ag.rf.adv hM5, nU S1, hD6.2.2.2.2.2.2.2.2.1, RepU.ag (Ag.rf.adv (lo := 0) (hi := 0)) hV5⟩
          · exact wp_some ⟨by omega, hj5, hnA, (hz.fz hF5.1).le (by omega)⟩
        · rw [if_neg (show ¬ xK X i = 29 by omega)]
          refine wp_f (show ¬ x3 = 0 by rw [hy3]; decide) ?_
          refine x_need (d := d + 4) hX 47 hG5 rfl (by omega) (by omega) (fun k47 hj6 => ?_) (fun S7 hz => ?_)
          · have hG6 := hG5.adv hX hj6
            refine x_sub (hE _ _ hG6 (by rw [nN_adv, hN5]; omega)) (fun t2 j2 r2 l2 S7 h7 => ?_) (fun ej r2 l2 S7 h7 => ?_)
            · obtain ⟨c1, c2, c3, c4, c5, q2, c6, c7, c8, c9⟩ := h7
              have hj7 := c2.1.1
              have hN6 : nN (advS S6) = nN S5 := by rw [nN_adv, hN5]
              rw [hN6] at c4 c5 c7
              refine wp_gd hnA ?_
              refine wp_st ?_
              have hG8 := c2.w (g := 53) (j := nN T) (v := r2) (by omega)
              have hF8 := (hF5.adv.tr c3).w (g := 53) (j := nN T) (v := r2) (by omega) (Nat.le_refl _)
              have hD8 := (hD5.adv.fe c3 (by omega)).w53 (v := r2)
              have hV8 : RepU X (sI S7 53 (nN T) r2) (nU S1) (i + 1) 1 := RepU.ag (Ag.rf.w (lo := 0) (hi := 0) (by omega) (by omega)) (RepU.ag c3.2.1 (RepU.ag (Ag.rf.adv (lo := 0) (hi := 0)) hV5))
              have hM8 : RepM X (sI S7 53 (nN T) r2) t (nN T + 1) (nN S5) r := RepM.ag (Ag.rf.w (by omega) (Or.inl (by omega))) (RepM.ag (c3.2.1.sub (by omega) (by omega)) (RepM.ag Ag.rf.adv hM5))
              have hM9 : RepM X (sI S7 53 (nN T) r2) t2 (nN S5) (nN S7) r2 := RepM.ag (Ag.rf.w (by omega) (Or.inl (by omega))) c4
              have hN8 : nN (sI S7 53 (nN T) r2) = nN S7 := by rw [nN_w (by omega)]
              generalize sI S7 53 (nN T) r2 = S8 at *
              refine x_need (d := d + 4) hX 43 hG8 rfl (by omega) (by omega) (fun k43 hj9 => ?_) (fun S9 hz => ?_)
              · refine wp_some ?_
                have hD9 := hD8.adv
                have hN9 : nN (advS S8) = nN S7 := by rw [nN_adv, hN8]
                refine ⟨by omega, hG8.adv hX hj9, hF8.adv, ?_, by rw [hN9]; omega, nN T, rfl, Nat.le_refl _, by rw [hN9]; omega, hD9.2.1⟩
                rw [hN9, RepM_n]
                unfold RpN
                rw [if_neg (by decide), if_neg (by decide), if_neg (by decide), if_neg (by decide), if_neg (by decide), if_neg (by decide), if_neg (by decide), if_pos rfl]
                refine ⟨r, rfl, by omega, hD9.2.1, hD9.2.2.1, ?_⟩
                rw [if_neg (by omega), if_pos hy1]
                exact ⟨hD9.1.trans hy2, ⟨nU S1, hD9.2.2.2.2.2.2.2.2.1, RepU.ag (Ag.rf.adv (lo := 0) (hi := 0)) hV8⟩, nN S5, r2, by omega, by omega, RepM.ag Ag.rf.adv hM8, RepM.ag Ag.rf.adv hM9, hD9.2.2.2.1⟩
              · exact wp_some ⟨by omega, hj7, hnA, (hz.fz hF8.1).le (by omega)⟩
            · obtain ⟨c1, c2, c3, c4⟩ := h7
              refine wp_gd hnA ?_
              refine wp_st ?_
              have h10 := (c4.fz hF5.adv.1).w (g := 53) (j := nN T) (v := r2) (by omega)
              refine wp_be (q_nd1 h10.bd _) ?_
              exact wp_some ⟨by omega, c2, hnA, h10.le (by omega)⟩
          · refine wp_bi (b_expr (d := d + 4) hnf (hz.fz hF5.1) (by omega) _) ?_
            intro r2 l2 S9 h9
            refine wp_gd hnA ?_
            refine wp_st ?_
            have h10 := h9.2.w (g := 53) (j := nN T) (v := r2) (by omega)
            refine wp_be (q_nd1 h10.bd _) ?_
            exact wp_some ⟨by omega, hj5, hnA, h10.le (by omega)⟩
      · obtain ⟨b1, b2, b3, b4⟩ := h5
        refine wp_gd hnA ?_
        refine wp_st ?_
        have h10 := (b4.fz hF2.adv.1).w (g := 52) (j := nN T) (v := r) (by omega)
        refine wp_if (fun _ => ?_) (fun _ => ?_)
        · refine wp_be (q_nd1 h10.bd _) ?_
          exact wp_some ⟨by omega, b2, hnA, h10.le (by omega)⟩
        · refine wp_be (q_nd1 h10.bd _) ?_
          refine wp_bi (b_expr (d := d + 4) hnf h10 (by omega) _) ?_
          intro r2 l2 S9 h9
          refine wp_gd hnA ?_
          refine wp_st ?_
          have h11 := h9.2.w (g := 53) (j := nN T) (v := r2) (by omega)
          refine wp_be (q_nd1 h11.bd _) ?_
          exact wp_some ⟨by omega, b2, hnA, h11.le (by omega)⟩
    · refine wp_bi (b_expr (d := d + 4) hnf (hz.fz hF2.1) (by omega) _) ?_
      intro r l S5 h5
      refine wp_gd hnA ?_
      refine wp_st ?_
      have h10 := h5.2.w (g := 52) (j := nN T) (v := r) (by omega)
      refine wp_if (fun _ => ?_) (fun _ => ?_)
      · refine wp_be (q_nd1 h10.bd _) ?_
        exact wp_some ⟨by omega, hj2, hnA, h10.le (by omega)⟩
      · refine wp_be (q_nd1 h10.bd _) ?_
        refine wp_bi (b_expr (d := d + 4) hnf h10 (by omega) _) ?_
        intro r2 l2 S9 h9
        refine wp_gd hnA ?_
        refine wp_st ?_
        have h11 := h9.2.w (g := 53) (j := nN T) (v := r2) (by omega)
        refine wp_be (q_nd1 h11.bd _) ?_
        exact wp_some ⟨by omega, hj2, hnA, h11.le (by omega)⟩
  · refine wp_mono (b_196 hnf hb1 (hz.fz hF1.1) (by omega)) ?_
    intro r l S5 h5
    exact ⟨by omega, hi1, h5.1, h5.2.le (by omega)⟩

end QX
