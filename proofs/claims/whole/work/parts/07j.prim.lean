/-! PRIMARY, whole -/
section QX
variable {nf d : Nat} {T T0 T1 T2 : gSt} {X : Lx} {e B i m n : Nat}
abbrev IHE (X : Lx) (nf m D : Nat) : Prop := ∀ T i, Gd X T i → nN T ≤ 2 * i → wp (RR nf D 35 T [nI (21 - m)] []) (fun r _ T' => EQ X T i m (pEx (xK X) m 0 i) r T')
abbrev IHT (X : Lx) (nf m D : Nat) : Prop := ∀ T i, Gd X T i → nN T ≤ 2 * i → wp (RR nf D 36 T [nI (21 - m)] []) (fun r _ T' => EQ X T i m (pEx (xK X) m 1 i) r T')
/-- the same, seen from a state with the same nodes ahead of it -/
theorem EQ.base {res : ER} {r : Int32} (hF : Fe T T1) (hN : nN T1 = nN T) (h : EQ X T1 i m res r T2) : EQ X T i m res r T2 := by
  cases res with
  | error e => exact ⟨h.1, h.2.1, h.2.2.1, h.2.2.2.fz hF.1⟩
  | ok tj =>
    obtain ⟨t, j⟩ := tj
    obtain ⟨b1, b2, b3, b4, b5, q, b6, b7, b8, b9⟩ := h
    rw [hN] at b4 b5 b7
    exact ⟨b1, b2, hF.tr b3, b4, b5, q, b6, b7, b8, b9⟩
theorem b_365 (hnf : 5000 ≤ nf) {x1 x2 y0 : Int32} (h : Zb X e T0 B T) (hB : B < 8190) : wp (rj_Model_primary_365 (RR nf (d + 8)) nf T x1 x2 y0) (fun r _ T' => inb r 8200 ∧ Zb X e T0 (B + 2) T') := by
  have hb := h.2.2.2.2
  unfold rj_Model_primary_365
  refine wp_be (q_node h.2.2.2.1 (by omega) _ _) ?_
  have h1 := h.nd (k := y0) (p := x2) (by omega)
  refine wp_be (q_nd1 h1.bd _) ?_
  refine wp_bi (b_expr (d := d + 4) hnf h1 (by omega) _) ?_
  intro r l S h2
  refine wp_gd (nin (by omega) (by omega)) ?_
  refine wp_st ?_
  have h3 := h2.2.w (g := 52) (j := (nI (nN T)).toNatClampNeg) (v := r) (by omega)
  refine wp_be (q_nd1 h3.bd _) ?_
  exact wp_some ⟨nin (by omega) (by omega), h3⟩
theorem x_365 (hX : LX X) (hnf : 5000 ≤ nf) (hm : m ≤ 20) (hE : IHE X nf m (d + 8)) (hG : Gd X T1 (i + 1)) (hF : Fe T T1) (hN : nN T1 = nN T) (hb : nN T ≤ 2 * i) {y0 : Int32} (hy : xK X i = 31 ∧ y0 = 11 ∨ xK X i = 32 ∧ y0 = 12) : wp (rj_Model_primary_365 (RR nf (d + 8)) nf T1 (nI (20 - m)) (nI (xP X i)) y0) (fun r _ T' => EQ X T i (m + 1) (ek (xK X) 42 (i + 1) (eb (pEx (xK X) m 0 (i + 2)) fun a j => ek (xK X) 43 j (.ok (tN 8 i 0 a tZ, j + 1)))) r T') := by
  have hx := hX.1
  have hi1 := hG.1.1
  have hb1 : nN T < 8200 := by omega
  have hnA : inb (nI (nN T)) 8200 := nin (by omega) (by omega)
  have ep : nI (20 - m) + 1 = nI (21 - m) := by rw [nI_1]; congr 1; omega
  unfold rj_Model_primary_365
  refine wp_be (q_node hG.2.2.1 (by omega) _ _) ?_
  rw [hN, nc (m := nN T) (by omega), ep]
  have hG1 := hG.nd (a := nN T1) (k := y0) (p := nI (xP X i)) (by omega)
  have hF1 := hF.nd (k := y0) (p := nI (xP X i)) (by omega)
  have hD1 : ND (ndS T1 (nN T1) y0 (nI (xP X i))) (nN T1) y0 (nI (xP X i)) (-1) (-1) (-1) (-1) _ _ _ _ _ := ND.nd
  have hN1 : nN (ndS T1 (nN T1) y0 (nI (xP X i))) = nN T + 1 := by rw [nN_nd (by omega), hN]
  rw [hN] at hG1 hF1 hD1 hN1
  generalize ndS T1 (nN T) y0 (nI (xP X i)) = S1 at *
  refine x_need (d := d + 4) hX 42 hG1 rfl (by omega) (by omega) (fun k42 hj => ?_) (fun S2 hz => ?_)
  · have hG2 := hG1.adv hX hj
    refine x_sub (hE _ _ hG2 (by rw [nN_adv, hN1]; omega)) (fun t j r l S3 h3 => ?_) (fun ej r l S3 h3 => ?_)
    · obtain ⟨b1, b2, b3, b4, b5, q, b6, b7, b8, b9⟩ := h3
      have hj3 := b2.1.1
      rw [nN_adv, hN1] at b4 b5 b7
      refine wp_gd hnA ?_
      refine wp_st ?_
      have hN2 : nN (advS S1) = nN T + 1 := by rw [nN_adv, hN1]
      have hG3 := b2.w (g := 52) (j := nN T) (v := r) (by omega)
      have hF3 := (hF1.adv.tr b3).w (g := 52) (j := nN T) (v := r) (by omega) (Nat.le_refl _)
      have hD3 := (hD1.adv.fe b3 (by omega)).w52 (v := r)
      have hM3 : RepM X (sI S3 52 (nN T) r) t (nN T + 1) (nN S3) r := RepM.ag (Ag.rf.w (by omega) (Or.inl (by omega))) b4
      have hN3 : nN (sI S3 52 (nN T) r) = nN S3 := by rw [nN_w (by omega)]
      generalize sI S3 52 (nN T) r = S4 at *
      refine x_need (d := d + 4) hX 43 hG3 rfl (by omega) (by omega) (fun k43 hj4 => ?_) (fun S5 hz => ?_)
      · refine wp_some ?_
        have hD4 := hD3.adv
        have hN4 : nN (advS S4) = nN S3 := by rw [nN_adv, hN3]
        refine ⟨by omega, hG3.adv hX hj4, hF3.adv, ?_, by rw [hN4]; omega, nN T, rfl, Nat.le_refl _, by rw [hN4]; omega, hD4.2.1⟩
        rw [hN4, RepM_n]
        unfold RpN
        simp only [Nat.reduceEqDiff, if_false, if_true]
        refine ⟨r, rfl, by omega, hD4.2.1, hD4.2.2.1, ?_⟩
        rw [if_neg (by omega), if_neg (by omega)]
        refine ⟨?_, RepM.ag Ag.rf.adv hM3⟩
        rcases hy with ⟨hy1, hy2⟩ | ⟨hy1, hy2⟩
        · rw [if_pos hy1, hD4.1, hy2]
        · rw [if_neg (by omega), hD4.1, hy2]
      · exact wp_some ⟨by omega, hj3, hnA, (hz.fz hF3.1).le (by omega)⟩
    · obtain ⟨b1, b2, b3, b4⟩ := h3
      refine wp_gd hnA ?_
      refine wp_st ?_
      have h10 := (b4.fz hF1.adv.1).w (g := 52) (j := nN T) (v := r) (by omega)
      refine wp_be (q_nd1 h10.bd _) ?_
      exact wp_some ⟨by omega, b2, hnA, h10.le (by omega)⟩
  · refine wp_bi (b_expr (d := d + 4) hnf (hz.fz hF1.1) (by omega) _) ?_
    intro r l S9 h9
    refine wp_gd hnA ?_
    refine wp_st ?_
    have h10 := h9.2.w (g := 52) (j := nN T) (v := r) (by omega)
    refine wp_be (q_nd1 h10.bd _) ?_
    exact wp_some ⟨by omega, hi1, hnA, h10.le (by omega)⟩
/-- behind a fault in cell or row -/
theorem b_196 (hnf : 5000 ≤ nf) {x1 x3 r60 : Int32} {a : Nat} (ha : a < 8200) (h : Zb X e T0 B T) (hB : B < 8190) : wp (gd (inb (nI a) 8200) <| stK (sI T 58 (nI a).toNatClampNeg r60) fun T61 => bi (RR nf (d + 8) 20 T61 [(40 : Int32)] []) fun r62 l62 T62 => bi (RR nf (d + 8) 35 T62 [x1 + (1 : Int32)] []) fun r63 l63 T63 => gd (inb (nI a) 8200) <| stK (sI T63 52 (nI a).toNatClampNeg r63) fun T64 => if x3 = (0 : Int32) then (bi (RR nf (d + 8) 20 T64 [(41 : Int32)] []) fun r66 l66 T66 => some (nI a, 0, T66)) else (bi (RR nf (d + 8) 20 T64 [(44 : Int32)] []) fun r68 l68 T68 => bi (RR nf (d + 8) 35 T68 [x1 + (1 : Int32)] []) fun r69 l69 T69 => gd (inb (nI a) 8200) <| stK (sI T69 53 (nI a).toNatClampNeg r69) fun T70 => bi (RR nf (d + 8) 20 T70 [(41 : Int32)] []) fun r71 l71 T71 => some (nI a, 0, T71))) (fun r _ T' => inb r 8200 ∧ Zb X e T0 (B + 2) T') := by
  have hnA : inb (nI a) 8200 := nin (by omega) (by omega)
  refine wp_gd hnA ?_
  refine wp_st ?_
  have h1 := h.w (g := 58) (j := (nI a).toNatClampNeg) (v := r60) (by omega)
  refine wp_be (q_nd1 h1.bd _) ?_
  refine wp_bi (b_expr (d := d + 4) hnf h1 (by omega) _) ?_
  intro r l S h2
  refine wp_gd hnA ?_
  refine wp_st ?_
  have h3 := h2.2.w (g := 52) (j := (nI a).toNatClampNeg) (v := r) (by omega)
  refine wp_if (fun _ => ?_) (fun _ => ?_)
  · refine wp_be (q_nd1 h3.bd _) ?_
    exact wp_some ⟨hnA, h3.le (by omega)⟩
  · refine wp_be (q_nd1 h3.bd _) ?_
    refine wp_bi (b_expr (d := d + 4) hnf h3 (by omega) _) ?_
    intro r l S h4
    refine wp_gd hnA ?_
    refine wp_st ?_
    have h5 := h4.2.w (g := 53) (j := (nI a).toNatClampNeg) (v := r) (by omega)
    refine wp_be (q_nd1 h5.bd _) ?_
    exact wp_some ⟨hnA, h5⟩
theorem x_196 (hX : LX X) (hnf : 5000 ≤ nf) (hm : m ≤ 20) (hE : IHE X nf m (d + 8)) (hG : Gd X T1 (i + 1)) (hF : Fe T T1) (hN : nN T1 = nN T) (hb : nN T ≤ 2 * i) {x3 y0 : Int32} (hy : xK X i = 29 ∧ y0 = 8 ∧ x3 = 0 ∨ xK X i = 30 ∧ y0 = 9 ∧ x3 = 1) : wp (rj_Model_primary_196 (RR nf (d + 8)) nf T1 (nI (20 - m)) (nI (xP X i)) x3 y0) (fun r _ T' => EQ X T i (m + 1) (ek (xK X) 4 (i + 1) (ek (xK X) 42 (i + 2) (eb (pEx (xK X) m 0 (i + 3)) fun a j => if xK X i = 29 then ek (xK X) 43 j (.ok (tN 8 i 0 a tZ, j + 1)) else ek (xK X) 47 j (eb (pEx (xK X) m 0 (j + 1)) fun b j2 => ek (xK X) 43 j2 (.ok (tN 8 i 0 a b, j2 + 1)))))) r T') := by
  have hx := hX.1
  have hi1 := hG.1.1
  have hb1 : nN T < 8200 := by omega
  have hnA : inb (nI (nN T)) 8200 := nin (by omega) (by omega)
  have ep : nI (20 - m) + 1 = nI (21 - m) := by rw [nI_1]; congr 1; omega
  unfold rj_Model_primary_196
  refine wp_be (q_node hG.2.2.1 (by omega) _ _) ?_
  rw [hN]
  have hG1 := hG.nd (a := nN T1) (k := y0) (p := nI (xP X i)) (by omega)
  have hF1 := hF.nd (k := y0) (p := nI (xP X i)) (by omega)
  have hD1 : ND (ndS T1 (nN T1) y0 (nI (xP X i))) (nN T1) y0 (nI (xP X i)) (-1) (-1) (-1) (-1) (T1.2 56 (nN T1)) (T1.1 57 (nN T1)) (T1.1 58 (nN T1)) 0 (T1.1 61 (nN T1)) := ND.nd
  have hN1 : nN (ndS T1 (nN T1) y0 (nI (xP X i))) = nN T + 1 := by rw [nN_nd (by omega), hN]
  rw [hN] at hG1 hF1 hD1 hN1
  generalize ndS T1 (nN T) y0 (nI (xP X i)) = S1 at *
  refine x_region (d := d + 5) hX hG1 (fun k4 S2 g1 g2 g3 g4 g5 g6 g7 => ?_) (fun S2 hz => ?_)
  · refine wp_gd hnA ?_
    refine wp_st ?_
    rw [nc (m := nN T) (by omega), ep]
    have hG2 := g1.w (g := 58) (j := nN T) (v := nI (nU S1)) (by omega)
    have hF2 := (g6 T hF1).w (g := 58) (j := nN T) (v := nI (nU S1)) (by omega) (Nat.le_refl _)
    have hD2 := (g7 _ _ _ _ _ _ _ _ _ _ _ _ hD1).w58 (v := nI (nU S1))
    have hV2 : RepU X (sI S2 58 (nN T) (nI (nU S1))) (nU S1) (i + 1) 1 := RepU.ag (Ag.rf.w (lo := 0) (hi := 0) (by omega) (by omega)) g4
    have hN2 : nN (sI S2 58 (nN T) (nI (nU S1))) = nN T + 1 := by rw [nN_w (by omega), g3, hN1]
    generalize sI S2 58 (nN T) (nI (nU S1)) = S3 at *
    have hj2 := hG2.1.1
    refine x_need (d := d + 4) hX 42 hG2 rfl (by omega) (by omega) (fun k42 hj => ?_) (fun S4 hz => ?_)
    · have hG3 := hG2.adv hX hj
      refine x_sub (hE _ _ hG3 (by rw [nN_adv, hN2]; omega)) (fun t j r l S5 h5 => ?_) (fun ej r l S5 h5 => ?_)
      · obtain ⟨b1, b2, b3, b4, b5, q, b6, b7, b8, b9⟩ := h5
        have hj5 := b2.1.1
        have hN3 : nN (advS S3) = nN T + 1 := by rw [nN_adv, hN2]
        rw [hN3] at b4 b5 b7
        refine wp_gd hnA ?_
        refine wp_st ?_
        have hG5 := b2.w (g := 52) (j := nN T) (v := r) (by omega)
        have hF5 := (hF2.adv.tr b3).w (g := 52) (j := nN T) (v := r) (by omega) (Nat.le_refl _)
        have hD5 := (hD2.adv.fe b3 (by omega)).w52 (v := r)
        have hV5 : RepU X (sI S5 52 (nN T) r) (nU S1) (i + 1) 1 := RepU.ag (Ag.rf.w (lo := 0) (hi := 0) (by omega) (by omega)) (RepU.ag b3.2.1 (RepU.ag (Ag.rf.adv (lo := 0) (hi := 0)) hV2))
        have hM5 : RepM X (sI S5 52 (nN T) r) t (nN T + 1) (nN S5) r := RepM.ag (Ag.rf.w (by omega) (Or.inl (by omega))) b4
        have hN5 : nN (sI S5 52 (nN T) r) = nN S5 := by rw [nN_w (by omega)]
        generalize sI S5 52 (nN T) r = S6 at *
        rcases hy with ⟨hy1, hy2, hy3⟩ | ⟨hy1, hy2, hy3⟩
        · rw [if_pos hy1]
          refine wp_t hy3 ?_
          refine x_need (d := d + 4) hX 43 hG5 rfl (by omega) (by omega) (fun k43 hj6 => ?_) (fun S7 hz => ?_)
          · refine wp_some ?_
            have hD6 := hD5.adv
            have hN6 : nN (advS S6) = nN S5 := by rw [nN_adv, hN5]
            refine ⟨by omega, hG5.adv hX hj6, hF5.adv, ?_, by rw [hN6]; omega, nN T, rfl, Nat.le_refl _, by rw [hN6]; omega, hD6.2.1⟩
            rw [hN6, RepM_n]
            unfold RpN
            simp only [Nat.reduceEqDiff, if_false, if_true]
            refine ⟨r, rfl, by omega, hD6.2.1, hD6.2.2.1, ?_⟩
            rw [if_pos hy1]
            exact ⟨hD6.1.trans hy2, RepM.ag Ag.rf.adv hM5, nU S1, hD6.2.2.2.2.2.2.2.2.1, RepU.ag (Ag.rf.adv (lo := 0) (hi := 0)) hV5⟩
          · exact wp_some ⟨by omega, hj5, hnA, (hz.fz hF5.1).le (by omega)⟩
        · rw [if_neg (by omega)]
          refine wp_f (by rw [hy3]; decide) ?_
          refine x_need (d := d + 4) hX 47 hG5 rfl (by omega) (by omega) (fun k47 hj6 => ?_) (fun S7 hz => ?_)
          · have hG6 := hG5.adv hX hj6
            refine x_sub (hE _ _ hG6 (by rw [nN_adv, hN5]; omega)) (fun t2 j2 r2 l2 S7 h7 => ?_) (fun ej r2 l2 S7 h7 => ?_)
            · obtain ⟨c1, c2, c3, c4, c5, q2, c6, c7, c8, c9⟩ := h7
              have hj7 := c2.1.1
              have hN6 : nN (advS S6) = nN S5 := by rw [nN_adv, hN5]
              rw [hN6] at c4 c5 c7
              refine wp_gd hnA ?_
              refine wp_st ?_
              have hG8 := c2.w (g := 53) (j := nN T) (v := r2) (by omega)
              have hF8 := (hF5.adv.tr c3).w (g := 53) (j := nN T) (v := r2) (by omega) (Nat.le_refl _)
              have hD8 := (hD5.adv.fe c3 (by omega)).w53 (v := r2)
              have hV8 : RepU X (sI S7 53 (nN T) r2) (nU S1) (i + 1) 1 := RepU.ag (Ag.rf.w (lo := 0) (hi := 0) (by omega) (by omega)) (RepU.ag c3.2.1 (RepU.ag (Ag.rf.adv (lo := 0) (hi := 0)) hV5))
              have hM8 : RepM X (sI S7 53 (nN T) r2) t (nN T + 1) (nN S5) r := RepM.ag (Ag.rf.w (by omega) (Or.inl (by omega))) (RepM.ag (c3.2.1.sub (by omega) (by omega)) (RepM.ag Ag.rf.adv hM5))
              have hM9 : RepM X (sI S7 53 (nN T) r2) t2 (nN S5) (nN S7) r2 := RepM.ag (Ag.rf.w (by omega) (Or.inl (by omega))) c4
              have hN8 : nN (sI S7 53 (nN T) r2) = nN S7 := by rw [nN_w (by omega)]
              generalize sI S7 53 (nN T) r2 = S8 at *
              refine x_need (d := d + 4) hX 43 hG8 rfl (by omega) (by omega) (fun k43 hj9 => ?_) (fun S9 hz => ?_)
              · refine wp_some ?_
                have hD9 := hD8.adv
                have hN9 : nN (advS S8) = nN S7 := by rw [nN_adv, hN8]
                refine ⟨by omega, hG8.adv hX hj9, hF8.adv, ?_, by rw [hN9]; omega, nN T, rfl, Nat.le_refl _, by rw [hN9]; omega, hD9.2.1⟩
                rw [hN9, RepM_n]
                unfold RpN
                simp only [Nat.reduceEqDiff, if_false, if_true]
                refine ⟨r, rfl, by omega, hD9.2.1, hD9.2.2.1, ?_⟩
                rw [if_neg (by omega), if_pos hy1]
                exact ⟨hD9.1.trans hy2, ⟨nU S1, hD9.2.2.2.2.2.2.2.2.1, RepU.ag (Ag.rf.adv (lo := 0) (hi := 0)) hV8⟩, nN S5, r2, by omega, by omega, RepM.ag Ag.rf.adv hM8, RepM.ag Ag.rf.adv hM9, hD9.2.2.2.1⟩
              · exact wp_some ⟨by omega, hj7, hnA, (hz.fz hF8.1).le (by omega)⟩
            · obtain ⟨c1, c2, c3, c4⟩ := h7
              refine wp_gd hnA ?_
              refine wp_st ?_
              have h10 := (c4.fz hF5.adv.1).w (g := 53) (j := nN T) (v := r2) (by omega)
              refine wp_be (q_nd1 h10.bd _) ?_
              exact wp_some ⟨by omega, c2, hnA, h10.le (by omega)⟩
          · refine wp_bi (b_expr (d := d + 4) hnf (hz.fz hF5.1) (by omega) _) ?_
            intro r2 l2 S9 h9
            refine wp_gd hnA ?_
            refine wp_st ?_
            have h10 := h9.2.w (g := 53) (j := nN T) (v := r2) (by omega)
            refine wp_be (q_nd1 h10.bd _) ?_
            exact wp_some ⟨by omega, hj5, hnA, h10.le (by omega)⟩
      · obtain ⟨b1, b2, b3, b4⟩ := h5
        refine wp_gd hnA ?_
        refine wp_st ?_
        have h10 := (b4.fz hF2.adv.1).w (g := 52) (j := nN T) (v := r) (by omega)
        refine wp_if (fun _ => ?_) (fun _ => ?_)
        · refine wp_be (q_nd1 h10.bd _) ?_
          exact wp_some ⟨by omega, b2, hnA, h10.le (by omega)⟩
        · refine wp_be (q_nd1 h10.bd _) ?_
          refine wp_bi (b_expr (d := d + 4) hnf h10 (by omega) _) ?_
          intro r2 l2 S9 h9
          refine wp_gd hnA ?_
          refine wp_st ?_
          have h11 := h9.2.w (g := 53) (j := nN T) (v := r2) (by omega)
          refine wp_be (q_nd1 h11.bd _) ?_
          exact wp_some ⟨by omega, b2, hnA, h11.le (by omega)⟩
    · refine wp_bi (b_expr (d := d + 4) hnf (hz.fz hF2.1) (by omega) _) ?_
      intro r l S5 h5
      refine wp_gd hnA ?_
      refine wp_st ?_
      have h10 := h5.2.w (g := 52) (j := nN T) (v := r) (by omega)
      refine wp_if (fun _ => ?_) (fun _ => ?_)
      · refine wp_be (q_nd1 h10.bd _) ?_
        exact wp_some ⟨by omega, hj2, hnA, h10.le (by omega)⟩
      · refine wp_be (q_nd1 h10.bd _) ?_
        refine wp_bi (b_expr (d := d + 4) hnf h10 (by omega) _) ?_
        intro r2 l2 S9 h9
        refine wp_gd hnA ?_
        refine wp_st ?_
        have h11 := h9.2.w (g := 53) (j := nN T) (v := r2) (by omega)
        refine wp_be (q_nd1 h11.bd _) ?_
        exact wp_some ⟨by omega, hj2, hnA, h11.le (by omega)⟩
  · refine wp_mono (b_196 hnf hb1 (hz.fz hF1.1) (by omega)) ?_
    intro r l S5 h5
    exact ⟨by omega, hi1, h5.1, h5.2.le (by omega)⟩

theorem x_prim (hX : LX X) (hnf : 5000 ≤ nf) (hm : m ≤ 20) (hE : ∀ D, d + 5 ≤ D → IHE X nf m D) (hT : ∀ D, d + 5 ≤ D → 0 < m → IHT X nf m D) (hG : Gd X T i) (hb : nN T ≤ 2 * i) : wp (RR nf (d + 9) 38 T [nI (20 - m)] []) (fun r _ T' => EQ X T i (m + 1) (pPrim (xK X) (pEx (xK X) m) i) r T') := by
  have hx := hX.1
  have hi0 := hG.1.1
  have hb1 : nN T < 8200 := by omega
  have hnA : inb (nI (nN T)) 8200 := nin (by omega) (by omega)
  have ep : nI (20 - m) + 1 = nI (21 - m) := by rw [nI_1]; congr 1; omega
  have t := hX.2.2.2.2.1 i hG.1.1
  rw [e_Model_primary]
  unfold rb_Model_primary
  refine wp_v ?_
  refine wp_be (q_bad0 hG.2.1) ?_
  refine wp_t rfl ?_
  rw [hG.pl]
  unfold pPrim
  by_cases k42 : xK X i = 42
  · rw [if_pos k42]
    have hi := hG.lt hX (by omega)
    refine wp_be (q_tkY hX hG.1 hG.2.1 42 rfl k42 (by omega)) ?_
    refine wp_f (by decide) ?_
    rw [ep]
    refine x_sub (hE (d + 8) (by omega) _ _ (hG.adv hX hi) (by rw [nN_adv]; omega)) (fun a j r l T' h => ?_) (fun ej r l T' h => ?_)
    · obtain ⟨h1, h2, h3, h4, h5, q, h6, h7, h8, h9⟩ := h
      have hj := h2.1.1
      rw [nN_adv] at h4 h5 h7
      refine x_need (d := d + 4) hX 43 h2 rfl (by omega) (by omega) (fun hk2 hj2 => ?_) (fun S hz => ?_)
      · refine wp_some ?_
        refine ⟨by omega, h2.adv hX hj2, (Fe.rf.adv.tr h3).adv, ?_, by rw [nN_adv]; omega, q, h6, h7, by rw [nN_adv]; exact h8, by rw [advS_i (by omega)]; exact h9⟩
        rw [nN_adv, RepM_n]
        unfold RpN
        rw [if_neg (by omega), if_pos rfl]
        exact RepM.ag Ag.rf.adv h4
      · exact wp_some ⟨by omega, hj, by rw [h6]; exact nin (by omega) (by omega), (hz.fz (Fz.rf.adv.tr h3.1)).le (by omega)⟩
    · obtain ⟨b1, b2, b3, b4⟩ := h
      refine wp_be (q_nd1 b4.bd _) ?_
      exact wp_some ⟨by omega, b2, b3, (b4.fz Fz.rf.adv).le (by omega)⟩
  rw [if_neg k42]
  by_cases kl : xK X i = 5 ∨ xK X i = 27 ∨ xK X i = 34 ∨ xK X i = 35
  · rw [if_pos kl]
    have hi := hG.lt hX (by omega)
    by_cases k5 : xK X i = 5
    · refine wp_be (q_tkN hX hG.1 hG.2.1 42 rfl (by omega) (by omega) (by omega)) ?_
      refine wp_t rfl ?_
      refine wp_t (by rw [hG.1.2.2.2.1]; exact (srtK_nu _ (okK_lt t.1)).mpr k5) ?_
      refine wp_be (q_node hG.2.2.1 hb1 _ _) ?_
      refine wp_gd hnA ?_
      refine wp_st ?_
      rw [nc (m := nN T) (by omega), ndS_i (by omega), hG.1.2.2.2.2.2.2.2.1 k5]
      have hG1 : Gd X (sI (ndS T (nN T) 0 (nI (xP X i))) 52 (nN T) (xN X i).toInt32) i := (hG.nd hb1).w (by omega)
      have hD1 : ND (sI (ndS T (nN T) 0 (nI (xP X i))) 52 (nN T) (xN X i).toInt32) (nN T) 0 (nI (xP X i)) (xN X i).toInt32 (-1) (-1) (-1) _ _ _ _ _ := ND.nd.w52
      refine wp_be (q_adv hX hG1.1) ?_
      refine wp_some (x_leaf hX (hG1.adv hX hi) ((Fe.rf.nd hb1).w (by omega) (Nat.le_refl _)).adv (by rw [nN_adv, nN_w (by omega), nN_nd hb1]) hb1 hD1.adv.2.1 ?_)
      rw [if_pos k5]
      exact ⟨hD1.adv.1, hD1.adv.2.2.1⟩
    by_cases k27 : xK X i = 27
    · refine wp_be (q_tkN hX hG.1 hG.2.1 42 rfl (by omega) (by omega) (by omega)) ?_
      refine wp_t rfl ?_
      refine wp_f (by rw [hG.1.2.2.2.1]; exact fun q => absurd ((srtK_nu _ (okK_lt t.1)).mp q) (by omega)) ?_
      refine wp_f (by rw [hG.1.2.2.2.1]; exact fun q => absurd ((srtK_nm _ (okK_lt t.1)).mp q) (by omega)) ?_
      refine wp_be (q_twY hX hG.1 hG.2.1 13 (by omega) (by omega) k27) ?_
      refine wp_f (by decide) ?_
      refine wp_be (q_node (hG.adv hX hi).2.2.1 (by rw [nN_adv]; omega) _ _) ?_
      have hG1 := (hG.adv hX hi).nd (a := nN (advS T)) (k := 1) (p := nI (xP X i)) (by rw [nN_adv]; omega)
      have hF1 : Fe T (ndS (advS T) (nN (advS T)) 1 (nI (xP X i))) := Fe.rf.adv.nd (by rw [nN_adv]; omega)
      have hN1 : nN (ndS (advS T) (nN (advS T)) 1 (nI (xP X i))) = nN T + 1 := by rw [nN_nd (by rw [nN_adv]; omega), nN_adv]
      have hD1 : ND (ndS (advS T) (nN (advS T)) 1 (nI (xP X i))) (nN (advS T)) 1 (nI (xP X i)) (-1) (-1) (-1) (-1) _ _ _ _ _ := ND.nd
      rw [nN_adv] at hG1 hF1 hN1 hD1 ⊢
      refine wp_some (x_leaf hX hG1 hF1 hN1 hb1 hD1.2.1 ?_)
      rw [if_neg k5, if_pos k27]
      exact hD1.1
    by_cases k34 : xK X i = 34
    · refine wp_be (q_tkN hX hG.1 hG.2.1 42 rfl (by omega) (by omega) (by omega)) ?_
      refine wp_t rfl ?_
      refine wp_f (by rw [hG.1.2.2.2.1]; exact fun q => absurd ((srtK_nu _ (okK_lt t.1)).mp q) (by omega)) ?_
      refine wp_f (by rw [hG.1.2.2.2.1]; exact fun q => absurd ((srtK_nm _ (okK_lt t.1)).mp q) (by omega)) ?_
      refine wp_be (q_twN hX hG.1 13 (by omega) (by omega) (by show xK X i ≠ 27; omega)) ?_
      refine wp_t rfl ?_
      refine wp_be (q_twY hX hG.1 hG.2.1 14 (by omega) (by omega) k34) ?_
      refine wp_f (by decide) ?_
      refine wp_be (q_node (hG.adv hX hi).2.2.1 (by rw [nN_adv]; omega) _ _) ?_
      have hG1 := (hG.adv hX hi).nd (a := nN (advS T)) (k := 2) (p := nI (xP X i)) (by rw [nN_adv]; omega)
      have hF1 : Fe T (ndS (advS T) (nN (advS T)) 2 (nI (xP X i))) := Fe.rf.adv.nd (by rw [nN_adv]; omega)
      have hN1 : nN (ndS (advS T) (nN (advS T)) 2 (nI (xP X i))) = nN T + 1 := by rw [nN_nd (by rw [nN_adv]; omega), nN_adv]
      have hD1 : ND (ndS (advS T) (nN (advS T)) 2 (nI (xP X i))) (nN (advS T)) 2 (nI (xP X i)) (-1) (-1) (-1) (-1) _ _ _ _ _ := ND.nd
      rw [nN_adv] at hG1 hF1 hN1 hD1 ⊢
      refine wp_some (x_leaf hX hG1 hF1 hN1 hb1 hD1.2.1 ?_)
      rw [if_neg k5, if_neg k27, if_pos k34]
      exact hD1.1
    by_cases k35 : xK X i = 35
    · refine wp_be (q_tkN hX hG.1 hG.2.1 42 rfl (by omega) (by omega) (by omega)) ?_
      refine wp_t rfl ?_
      refine wp_f (by rw [hG.1.2.2.2.1]; exact fun q => absurd ((srtK_nu _ (okK_lt t.1)).mp q) (by omega)) ?_
      refine wp_f (by rw [hG.1.2.2.2.1]; exact fun q => absurd ((srtK_nm _ (okK_lt t.1)).mp q) (by omega)) ?_
      refine wp_be (q_twN hX hG.1 13 (by omega) (by omega) (by show xK X i ≠ 27; omega)) ?_
      refine wp_t rfl ?_
      refine wp_be (q_twN hX hG.1 14 (by omega) (by omega) (by show xK X i ≠ 34; omega)) ?_
      refine wp_t rfl ?_
      refine wp_be (q_twY hX hG.1 hG.2.1 15 (by omega) (by omega) k35) ?_
      refine wp_f (by decide) ?_
      refine wp_be (q_node (hG.adv hX hi).2.2.1 (by rw [nN_adv]; omega) _ _) ?_
      have hG1 := (hG.adv hX hi).nd (a := nN (advS T)) (k := 3) (p := nI (xP X i)) (by rw [nN_adv]; omega)
      have hF1 : Fe T (ndS (advS T) (nN (advS T)) 3 (nI (xP X i))) := Fe.rf.adv.nd (by rw [nN_adv]; omega)
      have hN1 : nN (ndS (advS T) (nN (advS T)) 3 (nI (xP X i))) = nN T + 1 := by rw [nN_nd (by rw [nN_adv]; omega), nN_adv]
      have hD1 : ND (ndS (advS T) (nN (advS T)) 3 (nI (xP X i))) (nN (advS T)) 3 (nI (xP X i)) (-1) (-1) (-1) (-1) _ _ _ _ _ := ND.nd
      rw [nN_adv] at hG1 hF1 hN1 hD1 ⊢
      refine wp_some (x_leaf hX hG1 hF1 hN1 hb1 hD1.2.1 ?_)
      rw [if_neg k5, if_neg k27, if_neg k34, if_pos k35]
      exact hD1.1
    omega
  rw [if_neg kl]
  by_cases k2 : xK X i = 2
  · refine wp_be (q_tkN hX hG.1 hG.2.1 42 rfl (by omega) (by omega) (by omega)) ?_
    refine wp_t rfl ?_
    refine wp_f (by rw [hG.1.2.2.2.1]; exact fun q => absurd ((srtK_nu _ (okK_lt t.1)).mp q) (by omega)) ?_
    rw [if_pos k2]
    refine wp_t (by rw [hG.1.2.2.2.1]; exact (srtK_nm _ (okK_lt t.1)).mpr k2) ?_
    refine wp_bi (x_named hX hnf hm (hE (d + 5) (by omega)) hG hb k2) ?_
    intro r l T' h
    exact wp_some h
  rw [if_neg k2]
  by_cases k28 : xK X i = 28
  · refine wp_be (q_tkN hX hG.1 hG.2.1 42 rfl (by omega) (by omega) (by omega)) ?_
    refine wp_t rfl ?_
    refine wp_f (by rw [hG.1.2.2.2.1]; exact fun q => absurd ((srtK_nu _ (okK_lt t.1)).mp q) (by omega)) ?_
    refine wp_f (by rw [hG.1.2.2.2.1]; exact fun q => absurd ((srtK_nm _ (okK_lt t.1)).mp q) (by omega)) ?_
    refine wp_be (q_twN hX hG.1 13 (by omega) (by omega) (by show xK X i ≠ 27; omega)) ?_
    refine wp_t rfl ?_
    refine wp_be (q_twN hX hG.1 14 (by omega) (by omega) (by show xK X i ≠ 34; omega)) ?_
    refine wp_t rfl ?_
    refine wp_be (q_twN hX hG.1 15 (by omega) (by omega) (by show xK X i ≠ 35; omega)) ?_
    refine wp_t rfl ?_
    rw [if_pos k28]
    have hi := hG.lt hX (by omega)
    refine wp_be (q_twY hX hG.1 hG.2.1 16 (by omega) (by omega) k28) ?_
    refine wp_f (by decide) ?_
    refine wp_bi (x_new hX hnf hm (hE (d + 5) (by omega)) (hE (d + 7) (by omega)) (hG.adv hX hi) (by rw [nN_adv]; omega)) ?_
    intro r l T' h
    exact wp_some (EQ.base Fe.rf.adv nN_adv h)
  rw [if_neg k28]
  by_cases k29 : xK X i = 29
  · refine wp_be (q_tkN hX hG.1 hG.2.1 42 rfl (by omega) (by omega) (by omega)) ?_
    refine wp_t rfl ?_
    refine wp_f (by rw [hG.1.2.2.2.1]; exact fun q => absurd ((srtK_nu _ (okK_lt t.1)).mp q) (by omega)) ?_
    refine wp_f (by rw [hG.1.2.2.2.1]; exact fun q => absurd ((srtK_nm _ (okK_lt t.1)).mp q) (by omega)) ?_
    refine wp_be (q_twN hX hG.1 13 (by omega) (by omega) (by show xK X i ≠ 27; omega)) ?_
    refine wp_t rfl ?_
    refine wp_be (q_twN hX hG.1 14 (by omega) (by omega) (by show xK X i ≠ 34; omega)) ?_
    refine wp_t rfl ?_
    refine wp_be (q_twN hX hG.1 15 (by omega) (by omega) (by show xK X i ≠ 35; omega)) ?_
    refine wp_t rfl ?_
    refine wp_be (q_twN hX hG.1 16 (by omega) (by omega) (by show xK X i ≠ 28; omega)) ?_
    refine wp_t rfl ?_
    refine wp_be (q_wdN hX hG.1 17 (by omega) (by omega) (by show xK X i ≠ 30; omega)) ?_
    refine wp_t rfl ?_
    rw [if_pos k29]
    have hi := hG.lt hX (by omega)
    refine wp_be (q_wdY hX hG.1 hG.2.1 18 (by omega) (by omega) k29) ?_
    refine wp_f (by decide) ?_
    refine wp_be (q_adv hX hG.1) ?_
    refine wp_t rfl ?_
    have h := x_196 (d := d) hX hnf hm (hE (d + 8) (by omega)) (hG.adv hX hi) Fe.rf.adv nN_adv hb (x3 := 0) (y0 := 8) (Or.inl ⟨k29, rfl, rfl⟩)
    simp only [if_pos k29] at h
    exact h
  rw [if_neg k29]
  by_cases k30 : xK X i = 30
  · refine wp_be (q_tkN hX hG.1 hG.2.1 42 rfl (by omega) (by omega) (by omega)) ?_
    refine wp_t rfl ?_
    refine wp_f (by rw [hG.1.2.2.2.1]; exact fun q => absurd ((srtK_nu _ (okK_lt t.1)).mp q) (by omega)) ?_
    refine wp_f (by rw [hG.1.2.2.2.1]; exact fun q => absurd ((srtK_nm _ (okK_lt t.1)).mp q) (by omega)) ?_
    refine wp_be (q_twN hX hG.1 13 (by omega) (by omega) (by show xK X i ≠ 27; omega)) ?_
    refine wp_t rfl ?_
    refine wp_be (q_twN hX hG.1 14 (by omega) (by omega) (by show xK X i ≠ 34; omega)) ?_
    refine wp_t rfl ?_
    refine wp_be (q_twN hX hG.1 15 (by omega) (by omega) (by show xK X i ≠ 35; omega)) ?_
    refine wp_t rfl ?_
    refine wp_be (q_twN hX hG.1 16 (by omega) (by omega) (by show xK X i ≠ 28; omega)) ?_
    refine wp_t rfl ?_
    rw [if_pos k30]
    have hi := hG.lt hX (by omega)
    refine wp_be (q_wdY hX hG.1 hG.2.1 17 (by omega) (by omega) k30) ?_
    refine wp_f (by decide) ?_
    refine wp_be (q_adv hX hG.1) ?_
    refine wp_f (by decide) ?_
    have h := x_196 (d := d) hX hnf hm (hE (d + 8) (by omega)) (hG.adv hX hi) Fe.rf.adv nN_adv hb (x3 := 1) (y0 := 9) (Or.inr ⟨k30, rfl, rfl⟩)
    simp only [if_neg k29] at h
    exact h
  rw [if_neg k30]
  by_cases k58 : xK X i = 58
  · refine wp_be (q_tkN hX hG.1 hG.2.1 42 rfl (by omega) (by omega) (by omega)) ?_
    refine wp_t rfl ?_
    refine wp_f (by rw [hG.1.2.2.2.1]; exact fun q => absurd ((srtK_nu _ (okK_lt t.1)).mp q) (by omega)) ?_
    refine wp_f (by rw [hG.1.2.2.2.1]; exact fun q => absurd ((srtK_nm _ (okK_lt t.1)).mp q) (by omega)) ?_
    refine wp_be (q_twN hX hG.1 13 (by omega) (by omega) (by show xK X i ≠ 27; omega)) ?_
    refine wp_t rfl ?_
    refine wp_be (q_twN hX hG.1 14 (by omega) (by omega) (by show xK X i ≠ 34; omega)) ?_
    refine wp_t rfl ?_
    refine wp_be (q_twN hX hG.1 15 (by omega) (by omega) (by show xK X i ≠ 35; omega)) ?_
    refine wp_t rfl ?_
    refine wp_be (q_twN hX hG.1 16 (by omega) (by omega) (by show xK X i ≠ 28; omega)) ?_
    refine wp_t rfl ?_
    refine wp_be (q_wdN hX hG.1 17 (by omega) (by omega) (by show xK X i ≠ 30; omega)) ?_
    refine wp_t rfl ?_
    refine wp_be (q_wdN hX hG.1 18 (by omega) (by omega) (by show xK X i ≠ 29; omega)) ?_
    refine wp_t rfl ?_
    rw [if_pos k58]
    have hi := hG.lt hX (by omega)
    refine wp_be (q_tkY hX hG.1 hG.2.1 58 rfl k58 (by omega)) ?_
    refine wp_f (by decide) ?_
    refine wp_be (q_node (hG.adv hX hi).2.2.1 (by rw [nN_adv]; omega) _ _) ?_
    have hG1 := (hG.adv hX hi).nd (a := nN (advS T)) (k := 10) (p := nI (xP X i)) (by rw [nN_adv]; omega)
    have hF1 : Fe T (ndS (advS T) (nN (advS T)) 10 (nI (xP X i))) := Fe.rf.adv.nd (by rw [nN_adv]; omega)
    have hN1 : nN (ndS (advS T) (nN (advS T)) 10 (nI (xP X i))) = nN T + 1 := by rw [nN_nd (by rw [nN_adv]; omega), nN_adv]
    have hD1 : ND (ndS (advS T) (nN (advS T)) 10 (nI (xP X i))) (nN (advS T)) 10 (nI (xP X i)) (-1) (-1) (-1) (-1) _ _ _ _ _ := ND.nd
    rw [nN_adv] at hG1 hF1 hN1 hD1 ⊢
    generalize ndS (advS T) (nN T) 10 (nI (xP X i)) = S1 at *
    rw [ep, nc (m := nN T) (by omega)]
    by_cases hm0 : m = 0
    · subst hm0
      refine wp_f (by decide) ?_
      refine wp_be (q_wrong0 hG1.2.1) ?_
      refine wp_bi (b_term (d := d + 5) hnf (hG1.fail hF1.1 (Nat.le_refl _)) (by omega) _) ?_
      intro r l S2 h2
      refine wp_gd hnA ?_
      refine wp_st ?_
      exact wp_some ⟨by omega, hi, hnA, (h2.2.w (by omega)).le (by omega)⟩
    · refine wp_t ((nI_leI (a := 21 - m) (b := 20) (by omega) (by omega)).mpr (by omega)) ?_
      refine x_sub (hT (d + 8) (by omega) (by omega) _ _ hG1 (by omega)) (fun a j r l S2 h2 => ?_) (fun ej r l S2 h2 => ?_)
      · obtain ⟨b1, b2, b3, b4, b5, q, b6, b7, b8, b9⟩ := h2
        rw [hN1] at b4 b5 b7
        refine wp_gd hnA ?_
        refine wp_st ?_
        refine wp_some ?_
        have hD2 := (hD1.fe b3 (by omega)).w52 (v := r)
        have hN2 : nN (sI S2 52 (nN T) r) = nN S2 := by rw [nN_w (by omega)]
        refine ⟨by omega, b2.w (by omega), (hF1.tr b3).w (by omega) (Nat.le_refl _), ?_, by rw [hN2]; omega, nN T, rfl, Nat.le_refl _, by rw [hN2]; omega, hD2.2.1⟩
        rw [hN2, RepM_n]
        unfold RpN
        simp only [Nat.reduceEqDiff, if_false, if_true]
        exact ⟨r, rfl, by omega, hD2.2.1, hD2.2.2.1, hD2.1, RepM.ag (Ag.rf.w (by omega) (Or.inl (by omega))) b4⟩
      · obtain ⟨b1, b2, b3, b4⟩ := h2
        refine wp_gd hnA ?_
        refine wp_st ?_
        exact wp_some ⟨by omega, b2, hnA, ((b4.fz hF1.1).w (by omega)).le (by omega)⟩
  rw [if_neg k58]
  by_cases k31 : xK X i = 31
  · refine wp_be (q_tkN hX hG.1 hG.2.1 42 rfl (by omega) (by omega) (by omega)) ?_
    refine wp_t rfl ?_
    refine wp_f (by rw [hG.1.2.2.2.1]; exact fun q => absurd ((srtK_nu _ (okK_lt t.1)).mp q) (by omega)) ?_
    refine wp_f (by rw [hG.1.2.2.2.1]; exact fun q => absurd ((srtK_nm _ (okK_lt t.1)).mp q) (by omega)) ?_
    refine wp_be (q_twN hX hG.1 13 (by omega) (by omega) (by show xK X i ≠ 27; omega)) ?_
    refine wp_t rfl ?_
    refine wp_be (q_twN hX hG.1 14 (by omega) (by omega) (by show xK X i ≠ 34; omega)) ?_
    refine wp_t rfl ?_
    refine wp_be (q_twN hX hG.1 15 (by omega) (by omega) (by show xK X i ≠ 35; omega)) ?_
    refine wp_t rfl ?_
    refine wp_be (q_twN hX hG.1 16 (by omega) (by omega) (by show xK X i ≠ 28; omega)) ?_
    refine wp_t rfl ?_
    refine wp_be (q_wdN hX hG.1 17 (by omega) (by omega) (by show xK X i ≠ 30; omega)) ?_
    refine wp_t rfl ?_
    refine wp_be (q_wdN hX hG.1 18 (by omega) (by omega) (by show xK X i ≠ 29; omega)) ?_
    refine wp_t rfl ?_
    refine wp_be (q_tkN hX hG.1 hG.2.1 58 rfl (by omega) (by omega) (by omega)) ?_
    refine wp_t rfl ?_
    rw [if_pos (Or.inl k31)]
    have hi := hG.lt hX (by omega)
    refine wp_be (q_wdY hX hG.1 hG.2.1 19 (by omega) (by omega) k31) ?_
    refine wp_f (by decide) ?_
    unfold rj_Model_primary_341
    refine wp_be (q_bad0 hG.2.1) ?_
    refine wp_t rfl ?_
    refine wp_be (q_adv hX hG.1) ?_
    refine wp_f (by decide) ?_
    exact x_365 (d := d) hX hnf hm (hE (d + 8) (by omega)) (hG.adv hX hi) Fe.rf.adv nN_adv hb (Or.inl ⟨k31, rfl⟩)
  by_cases k32 : xK X i = 32
  · refine wp_be (q_tkN hX hG.1 hG.2.1 42 rfl (by omega) (by omega) (by omega)) ?_
    refine wp_t rfl ?_
    refine wp_f (by rw [hG.1.2.2.2.1]; exact fun q => absurd ((srtK_nu _ (okK_lt t.1)).mp q) (by omega)) ?_
    refine wp_f (by rw [hG.1.2.2.2.1]; exact fun q => absurd ((srtK_nm _ (okK_lt t.1)).mp q) (by omega)) ?_
    refine wp_be (q_twN hX hG.1 13 (by omega) (by omega) (by show xK X i ≠ 27; omega)) ?_
    refine wp_t rfl ?_
    refine wp_be (q_twN hX hG.1 14 (by omega) (by omega) (by show xK X i ≠ 34; omega)) ?_
    refine wp_t rfl ?_
    refine wp_be (q_twN hX hG.1 15 (by omega) (by omega) (by show xK X i ≠ 35; omega)) ?_
    refine wp_t rfl ?_
    refine wp_be (q_twN hX hG.1 16 (by omega) (by omega) (by show xK X i ≠ 28; omega)) ?_
    refine wp_t rfl ?_
    refine wp_be (q_wdN hX hG.1 17 (by omega) (by omega) (by show xK X i ≠ 30; omega)) ?_
    refine wp_t rfl ?_
    refine wp_be (q_wdN hX hG.1 18 (by omega) (by omega) (by show xK X i ≠ 29; omega)) ?_
    refine wp_t rfl ?_
    refine wp_be (q_tkN hX hG.1 hG.2.1 58 rfl (by omega) (by omega) (by omega)) ?_
    refine wp_t rfl ?_
    refine wp_be (q_wdN hX hG.1 19 (by omega) (by omega) (by show xK X i ≠ 31; omega)) ?_
    refine wp_t rfl ?_
    rw [if_pos (Or.inr k32)]
    have hi := hG.lt hX (by omega)
    refine wp_be (q_wdY hX hG.1 hG.2.1 20 (by omega) (by omega) k32) ?_
    refine wp_f (by decide) ?_
    unfold rj_Model_primary_341
    refine wp_be (q_bad0 hG.2.1) ?_
    refine wp_t rfl ?_
    refine wp_be (q_adv hX hG.1) ?_
    refine wp_t rfl ?_
    exact x_365 (d := d) hX hnf hm (hE (d + 8) (by omega)) (hG.adv hX hi) Fe.rf.adv nN_adv hb (Or.inr ⟨k32, rfl⟩)
  rw [if_neg (by omega)]
  refine wp_be (q_tkN hX hG.1 hG.2.1 42 rfl (by omega) (by omega) (by omega)) ?_
  refine wp_t rfl ?_
  refine wp_f (by rw [hG.1.2.2.2.1]; exact fun q => absurd ((srtK_nu _ (okK_lt t.1)).mp q) (by omega)) ?_
  refine wp_f (by rw [hG.1.2.2.2.1]; exact fun q => absurd ((srtK_nm _ (okK_lt t.1)).mp q) (by omega)) ?_
  refine wp_be (q_twN hX hG.1 13 (by omega) (by omega) (by show xK X i ≠ 27; omega)) ?_
  refine wp_t rfl ?_
  refine wp_be (q_twN hX hG.1 14 (by omega) (by omega) (by show xK X i ≠ 34; omega)) ?_
  refine wp_t rfl ?_
  refine wp_be (q_twN hX hG.1 15 (by omega) (by omega) (by show xK X i ≠ 35; omega)) ?_
  refine wp_t rfl ?_
  refine wp_be (q_twN hX hG.1 16 (by omega) (by omega) (by show xK X i ≠ 28; omega)) ?_
  refine wp_t rfl ?_
  refine wp_be (q_wdN hX hG.1 17 (by omega) (by omega) (by show xK X i ≠ 30; omega)) ?_
  refine wp_t rfl ?_
  refine wp_be (q_wdN hX hG.1 18 (by omega) (by omega) (by show xK X i ≠ 29; omega)) ?_
  refine wp_t rfl ?_
  refine wp_be (q_tkN hX hG.1 hG.2.1 58 rfl (by omega) (by omega) (by omega)) ?_
  refine wp_t rfl ?_
  refine wp_be (q_wdN hX hG.1 19 (by omega) (by omega) (by show xK X i ≠ 31; omega)) ?_
  refine wp_t rfl ?_
  refine wp_be (q_wdN hX hG.1 20 (by omega) (by omega) (by show xK X i ≠ 32; omega)) ?_
  refine wp_t rfl ?_
  refine wp_be (q_wrong0 hG.2.1) ?_
  have hz := hG.fail (B := nN T) Fz.rf (Nat.le_refl _)
  unfold rj_Model_primary_341
  refine wp_be (q_bad1 hz.bd) ?_
  refine wp_f (by decide) ?_
  refine wp_t rfl ?_
  refine wp_mono (b_365 hnf hz (by omega)) ?_
  intro r l S h
  exact ⟨Nat.le_refl _, hi0, h.1, h.2.le (by omega)⟩
end QX
