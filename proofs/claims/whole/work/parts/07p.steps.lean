/-! STEPS -/
section SX
variable {nf d : Nat} {T T0 T1 T2 : gSt} {X : Lx} {e B i j m n v g : Nat}
theorem Gs.sub {t : Tr} {r : Int32} (h : Gs X T i v g) (hq : EO X T i t j r T1) : Gs X T1 j v g := h.fe hq.2.2.1 hq.2.1 (by have := hq.1; omega)
theorem EE.up {r : Int32} (hF : Fz T T1) (h : EE X T1 n m e r T2) (hi : i ≤ n) : EE X T i (m + 1) e r T2 := ⟨by have := h.1; omega, h.2.1, h.2.2.1, (h.2.2.2.fz hF).le (by omega)⟩
set_option maxHeartbeats 8000000 in
theorem s_60 (hX : LX X) (hnf : 5000 ≤ nf) (hm : m ≤ 20) (hE : ∀ D, d + 10 ≤ D → IHE X nf m D) (hB : ∀ D, d + 10 ≤ D → IHB X nf m D) (hS : Gs X T1 (i + 1) v g) (hv : v ≤ 20) (hg : g ≤ 8) (hF : Fs T T1) (hN : nN T1 = nN T) (hb : nN T ≤ 2 * i) {x3 y0 : Int32} (hy : y0 = 21 ∧ x3 = 0 ∨ y0 = 22 ∧ x3 = 1) : wp (rj_Model_step_60 (RR nf (d + 19)) nf T1 (nI (20 - m)) (nI (xP X i)) x3 y0) (fun r _ T' => SQ X T i (m + 1) (se (pEx (xK X) m 0 (i + 1)) fun a j => sb (pBl (xK X) m j v g) fun b j2 v2 g2 => if x3 = 0 then (if xK X j2 = 17 then sb (pBl (xK X) m (j2 + 1) v2 g2) fun c j3 v3 g3 => .ok (tD 21 i 0 a (tD 12 0 0 b c), j3, v3, g3) else .ok (tD 21 i 0 a (tD 12 0 0 b tZ), j2, v2, g2)) else .ok (tD 22 i 0 a b, j2, v2, g2)) r T') := by
  have hx := hX.1
  have hi1 := hS.1.1.1
  have hb1 : nN T < 8200 := by omega
  have hnA : inb (nI (nN T)) 8200 := nin (by omega) (by omega)
  have ca : (nI (nN T)).toNatClampNeg = nN T := nc (by omega)
  have ep : nI (20 - m) + 1 = nI (21 - m) := by rw [nI_1]; congr 1; omega
  unfold rj_Model_step_60
  refine wp_be (q_node hS.1.2.2.1 (by omega) _ _) ?_
  have hS1 := hS.nd (a := nN T1) (k := y0) (p := nI (xP X i)) (by omega)
  have hF1 := hF.nd (k := y0) (p := nI (xP X i)) (by omega)
  have hD1 : ND (ndS T1 (nN T1) y0 (nI (xP X i))) (nN T1) y0 (nI (xP X i)) (-1) (-1) (-1) (-1) (T1.2 56 (nN T1)) (T1.1 57 (nN T1)) (T1.1 58 (nN T1)) 0 (T1.1 61 (nN T1)) := ND.nd
  have hN1 : nN (ndS T1 (nN T1) y0 (nI (xP X i))) = nN T + 1 := by rw [nN_nd (by omega), hN]
  rw [hN] at hS1 hF1 hD1 hN1 ⊢
  generalize ndS T1 (nN T) y0 (nI (xP X i)) = S1 at *
  rw [ep, ca]
  -- behind a fault
  have bd3 : ∀ S ej B, Zb X ej T B S → i ≤ ej → ej ≤ xn X → B ≤ 2 * ej + 4 * (m + 1) + 4 → wp (gd (inb (nI (nN T)) 8200) <| stK (sI S 53 (nN T) 0) fun T60 => if x3 = (0 : Int32) then (bi (RR nf (d + 19) 19 T60 [nI 24] []) fun r63 l63 T63 => if r63 = (0 : Int32) then (some (nI (nN T), 0, T63)) else (bi (RR nf (d + 19) 31 T63 [nI (21 - m)] []) fun r66 l66 T66 => gd (inb (nI (nN T)) 8200) <| stK (sI T66 54 (nN T) r66) fun T67 => some (nI (nN T), 0, T67))) else (some (nI (nN T), 0, T60))) (fun r2 _ T2 => EE X T i (m + 1) ej r2 T2) := by
    intro S ej B h1 h2 h3 h4
    refine wp_gd hnA ?_
    refine wp_st ?_
    have h5 := h1.w (g := 53) (j := nN T) (v := 0) (by omega)
    refine wp_if (fun _ => ?_) (fun _ => wp_some ⟨h2, h3, hnA, h5.le h4⟩)
    refine wp_be (q_tw1 h5.bd 24) ?_
    refine wp_t rfl ?_
    exact wp_some ⟨h2, h3, hnA, h5.le h4⟩
  refine s_sub (hE (d + 19) (by omega) S1 (i + 1) hS1.1 (by omega)) (fun a j r l S2 h2 => ?_) (fun ej r l S2 h2 => ?_)
  · have hS2 := hS1.sub h2
    obtain ⟨b1, b2, b3, b4, b5, q, b6, b7, b8, b9⟩ := h2
    have hj2 := b2.1.1
    rw [hN1] at b4 b5 b7
    refine wp_gd hnA ?_
    refine wp_st ?_
    have hS3 := hS2.w (g' := 52) (j := nN T) (x := r) (by omega)
    have hF3 := (hF1.tr b3.fs).w (g := 52) (j := nN T) (v := r) (by omega) (Or.inl (Nat.le_refl _))
    have hD3 := (hD1.fe b3 (by omega)).w52 (v := r)
    have hM3 : RepM X (sI S2 52 (nN T) r) a (nN T + 1) (nN S2) r := RepM.ag (Ag.rf.w (by omega) (Or.inl (by omega))) b4
    have hN3 : nN (sI S2 52 (nN T) r) = nN S2 := by rw [nN_w (by omega)]
    generalize sI S2 52 (nN T) r = S3 at *
    refine s_blk (hB (d + 19) (by omega) S3 j v g hS3 hv hg (by omega)) (fun b j2 v2 g2 r2 l2 S4 h4 => ?_) (fun ej r2 l2 S4 h4 => ?_)
    · obtain ⟨c1, c2, c3, c4, c5, c6, c7, q2, c8, c9, c10, c11, c12⟩ := h4
      have hj4 := c2.1.1.1
      rw [hN3] at c6 c7 c9
      refine wp_gd hnA ?_
      refine wp_st ?_
      have hS5 := c2.w (g' := 53) (j := nN T) (x := r2) (by omega)
      have hF5 := (hF3.tr c5).w (g := 53) (j := nN T) (v := r2) (by omega) (Or.inl (Nat.le_refl _))
      have hD5 := (hD3.fs c5 (by omega)).w53 (v := r2)
      have hle5 := c5.2.2.1
      rw [hN3] at hle5
      have hM5 : RepM X (sI S4 53 (nN T) r2) a (nN T + 1) (nN S2) r := RepM.ag (Ag.rf.w (by omega) (Or.inl (by omega))) (RepM.ag (c5.2.1.sub (by omega) (by omega)) hM3)
      have hR5 : RepS X (sI S4 53 (nN T) r2) b (nN S2) (nN S2) (nN S4) r2 := RepS.own (Ag.rf.w (by omega) (Or.inl (by omega))) (Aw.w (by omega)) c6
      have hN5 : nN (sI S4 53 (nN T) r2) = nN S4 := by rw [nN_w (by omega)]
      generalize sI S4 53 (nN T) r2 = S5 at *
      rcases hy with ⟨hy1, hy2⟩ | ⟨hy1, hy2⟩
      · refine wp_t (show x3 = 0 from hy2) ?_
        rw [if_pos (show x3 = 0 from hy2)]
        by_cases k17 : xK X j2 = 17
        · have hj5 := hS5.1.lt hX (by omega)
          rw [if_pos k17]
          refine wp_be (q_twY hX hS5.1.1 hS5.1.2.1 24 (by omega) (by omega) k17) ?_
          refine wp_f (by decide) ?_
          have hS6 := hS5.adv hX hj5
          refine s_blk (hB (d + 19) (by omega) (advS S5) (j2 + 1) v2 g2 hS6 c3 c4 (by rw [nN_adv, hN5]; omega)) (fun c j3 v3 g3 r3 l3 S7 h7 => ?_) (fun ej r3 l3 S7 h7 => ?_)
          · obtain ⟨d1, d2, d3, d4, d5, d6, d7, q3, d8, d9, d10, d11, d12⟩ := h7
            have hj7 := d2.1.1.1
            rw [nN_adv, hN5] at d6 d7 d9
            have hle7 := d5.2.2.1
            rw [nN_adv, hN5] at hle7
            refine wp_gd hnA ?_
            refine wp_st ?_
            have hD8 := (hD5.adv.fs d5 (by rw [nN_adv, hN5]; omega)).w54 (v := r3)
            have hN8 : nN (sI S7 54 (nN T) r3) = nN S7 := by rw [nN_w (by omega)]
            have ag1 : ∀ lo hi, nN T < lo → hi ≤ nN S4 → Ag S5 (sI S7 54 (nN T) r3) lo hi := fun lo hi h1 h2 => ((Ag.rf.adv (T := S5)).tr (d5.2.1.sub (a := lo) (b := hi) (by omega) (by rw [nN_adv, hN5]; omega)) (Nat.le_refl _) (Nat.le_refl _)).w (by omega) (Or.inl (by omega))
            have aw1 : Aw S5 (sI S7 54 (nN T) r3) := (Fe.rf.adv.aw.tr d5.2.2.2).tr (Aw.w (by omega))
            refine wp_some ⟨by omega, d2.w (by omega), d3, d4, (hF5.adv.tr d5).w (by omega) (Or.inl (Nat.le_refl _)), ?_, by rw [hN8]; omega, nN T, rfl, Nat.le_refl _, by rw [hN8]; omega, hD8.2.2.2.2.2.1, _, _, _, _, _, rfl, by decide, by decide⟩
            rw [hN8]
            rw [RepS_n]
            unfold RsN
            rw [if_neg (by decide), if_pos (by decide)]
            refine ⟨rfl, hD8.1.trans hy1, hD8.2.1, nN S2, by omega, by omega, ?_, ?_⟩
            · rw [hD8.2.2.1]; exact RepM.ag (ag1 _ _ (by omega) (by omega)) hM5
            · rw [RepS_n]
              unfold RsN
              rw [if_neg (by decide), if_neg (by decide), if_pos (by decide)]
              refine ⟨nN S4, by omega, by omega, ?_, ?_⟩
              · rw [hD8.2.2.2.1]; exact RepS.own (ag1 _ _ (by omega) (by omega)) aw1 hR5
              · rw [hD8.2.2.2.2.1]; exact RepS.own (Ag.rf.w (by omega) (Or.inl (by omega))) (Aw.w (by omega)) d6
          · refine wp_gd hnA ?_
            refine wp_st ?_
            have h8 := EE.up (hF5.adv.1) h7 (i := i) (by omega)
            exact wp_some ⟨h8.1, h8.2.1, hnA, h8.2.2.2.w (by omega)⟩
        · rw [if_neg k17]
          refine wp_be (q_twN hX hS5.1.1 24 (by omega) (by omega) (by show xK X j2 ≠ 17; omega)) ?_
          refine wp_t rfl ?_
          refine wp_some ⟨by omega, hS5, c3, c4, hF5, ?_, by omega, nN T, rfl, Nat.le_refl _, by omega, hD5.2.2.2.2.2.1, _, _, _, _, _, rfl, by decide, by decide⟩
          rw [hN5]
          rw [RepS_n]
          unfold RsN
          rw [if_neg (by decide), if_pos (by decide)]
          refine ⟨rfl, hD5.1.trans hy1, hD5.2.1, nN S2, by omega, by omega, ?_, ?_⟩
          · rw [hD5.2.2.1]; exact hM5
          · rw [RepS_n]
            unfold RsN
            rw [if_neg (by decide), if_neg (by decide), if_pos (by decide)]
            refine ⟨nN S4, by omega, by omega, ?_, ?_⟩
            · rw [hD5.2.2.2.1]; exact hR5
            · rw [hD5.2.2.2.2.1]; exact ⟨rfl, rfl⟩
      · refine wp_f (show ¬ x3 = 0 by rw [hy2]; decide) ?_
        rw [if_neg (show ¬ x3 = 0 by rw [hy2]; decide)]
        refine wp_some ⟨by omega, hS5, c3, c4, hF5, ?_, by omega, nN T, rfl, Nat.le_refl _, by omega, hD5.2.2.2.2.2.1, _, _, _, _, _, rfl, by decide, by decide⟩
        rw [hN5]
        rw [RepS_n]
        unfold RsN
        rw [if_neg (by decide), if_neg (by decide), if_neg (by decide), if_pos (by decide)]
        refine ⟨rfl, hD5.1.trans hy1, hD5.2.1, nN S2, by omega, by omega, ?_, ?_⟩
        · rw [hD5.2.2.1]; exact hM5
        · rw [hD5.2.2.2.1]; exact hR5
    · have h8 := EE.up hF3.1 h4 (i := i) (by omega)
      refine wp_gd hnA ?_
      refine wp_st ?_
      have h5 := h8.2.2.2.w (g := 53) (j := nN T) (v := r2) (by omega)
      refine wp_if (fun _ => ?_) (fun _ => wp_some ⟨h8.1, h8.2.1, hnA, h5⟩)
      refine wp_be (q_tw1 h5.bd 24) ?_
      refine wp_t rfl ?_
      exact wp_some ⟨h8.1, h8.2.1, hnA, h5⟩
  · have h8 := EE.up hF1.1 h2 (i := i) (by omega)
    refine wp_gd hnA ?_
    refine wp_st ?_
    have h9 := h8.2.2.2.w (g := 52) (j := nN T) (v := r) (by omega)
    refine wp_be (b_block (d := d + 14) hnf h9.bd _) ?_
    exact bd3 _ ej _ h9 h8.1 h8.2.1 (Nat.le_refl _)
set_option maxHeartbeats 4000000 in
theorem s_ret (hX : LX X) (hnf : 5000 ≤ nf) (hm : m ≤ 20) (hE : ∀ D, d + 10 ≤ D → IHE X nf m D) (hB : ∀ D, d + 10 ≤ D → IHB X nf m D) (hS : Gs X T1 (i + 1) v g) (hv : v ≤ 20) (hg : g ≤ 8) (hF : Fs T T1) (hN : nN T1 = nN T) (hb : nN T ≤ 2 * i) : wp (bi (RR nf (d + 19) 30 T1 [(23 : Int32), nI (xP X i)] []) fun r43 l43 T43 => bi (RR nf (d + 19) 16 T43 [(59 : Int32)] []) fun r44 l44 T44 => if r44 = (0 : Int32) then (bi (RR nf (d + 19) 35 T44 [nI (20 - m) + (1 : Int32)] []) fun r48 l48 T48 => gd (inb r43 8200) <| stK (sI T48 52 r43.toNatClampNeg r48) fun T49 => bi (RR nf (d + 19) 20 T49 [(59 : Int32)] []) fun r50 l50 T50 => some (r43, 0, T50)) else (bi (RR nf (d + 19) 20 T44 [(59 : Int32)] []) fun r46 l46 T46 => some (r43, 0, T46))) (fun r _ T' => SQ X T i (m + 1) (if xK X (i + 1) = 46 then .ok (tD 23 i 0 tZ tZ, i + 2, v, g) else se (pEx (xK X) m 0 (i + 1)) fun a j => sn (xK X) 46 j (.ok (tD 23 i 0 a tZ, j + 1, v, g))) r T') := by
  have hx := hX.1
  have hi1 := hS.1.1.1
  have hb1 : nN T < 8200 := by omega
  have hnA : inb (nI (nN T)) 8200 := nin (by omega) (by omega)
  have ca : (nI (nN T)).toNatClampNeg = nN T := nc (by omega)
  have ep : nI (20 - m) + 1 = nI (21 - m) := by rw [nI_1]; congr 1; omega
  refine wp_be (q_node hS.1.2.2.1 (by omega) _ _) ?_
  have hS1 := hS.nd (a := nN T1) (k := 23) (p := nI (xP X i)) (by omega)
  have hF1 := hF.nd (k := 23) (p := nI (xP X i)) (by omega)
  have hD1 : ND (ndS T1 (nN T1) 23 (nI (xP X i))) (nN T1) 23 (nI (xP X i)) (-1) (-1) (-1) (-1) (T1.2 56 (nN T1)) (T1.1 57 (nN T1)) (T1.1 58 (nN T1)) 0 (T1.1 61 (nN T1)) := ND.nd
  have hN1 : nN (ndS T1 (nN T1) 23 (nI (xP X i))) = nN T + 1 := by rw [nN_nd (by omega), hN]
  rw [hN] at hS1 hF1 hD1 hN1 ⊢
  generalize ndS T1 (nN T) 23 (nI (xP X i)) = S1 at *
  rw [ep, ca]
  by_cases k46 : xK X (i + 1) = 46
  · have hj := hS1.1.lt hX (by omega)
    rw [if_pos k46]
    refine wp_be (q_sgY hX hS1.1.1 hS1.1.2.1 46 rfl k46 (by omega)) ?_
    refine wp_f (by decide) ?_
    refine wp_be (q_ndY hX hS1.1.1 hS1.1.2.1 46 rfl k46 (by omega)) ?_
    have hN2 : nN (advS S1) = nN T + 1 := by rw [nN_adv, hN1]
    have hD2 := hD1.adv
    refine wp_some ⟨by omega, hS1.adv hX hj, hv, hg, hF1.adv, ?_, by rw [hN2]; omega, nN T, rfl, Nat.le_refl _, by rw [hN2]; omega, hD2.2.2.2.2.2.1, _, _, _, _, _, rfl, by decide, by decide⟩
    rw [hN2]
    rw [RepS_n]
    unfold RsN
    rw [if_neg (by decide), if_neg (by decide), if_neg (by decide), if_neg (by decide), if_pos (by decide)]
    refine ⟨rfl, by omega, hD2.1, hD2.2.1, ?_⟩
    rw [hD2.2.2.1]
    exact ⟨rfl, rfl⟩
  · rw [if_neg k46]
    refine wp_be (q_sgN hX hS1.1.1 hS1.1.2.1 46 rfl k46 (by omega) (by omega)) ?_
    refine wp_t rfl ?_
    refine s_sub (hE (d + 19) (by omega) S1 (i + 1) hS1.1 (by omega)) (fun a j r l S2 h2 => ?_) (fun ej r l S2 h2 => ?_)
    · have hS2 := hS1.sub h2
      obtain ⟨b1, b2, b3, b4, b5, q, b6, b7, b8, b9⟩ := h2
      have hj2 := b2.1.1
      rw [hN1] at b4 b5 b7
      refine wp_gd hnA ?_
      refine wp_st ?_
      have hS3 := hS2.w (g' := 52) (j := nN T) (x := r) (by omega)
      have hF3 := (hF1.tr b3.fs).w (g := 52) (j := nN T) (v := r) (by omega) (Or.inl (Nat.le_refl _))
      have hD3 := (hD1.fe b3 (by omega)).w52 (v := r)
      have hM3 : RepM X (sI S2 52 (nN T) r) a (nN T + 1) (nN S2) r := RepM.ag (Ag.rf.w (by omega) (Or.inl (by omega))) b4
      have hN3 : nN (sI S2 52 (nN T) r) = nN S2 := by rw [nN_w (by omega)]
      generalize sI S2 52 (nN T) r = S3 at *
      refine s_need (d := d + 15) hX 46 hS3.1 rfl (by omega) (by omega) (fun hk hj => ?_) (fun S4 hz => ?_)
      · have hN4 : nN (advS S3) = nN S2 := by rw [nN_adv, hN3]
        have hD4 := hD3.adv
        refine wp_some ⟨by omega, hS3.adv hX hj, hv, hg, hF3.adv, ?_, by rw [hN4]; omega, nN T, rfl, Nat.le_refl _, by rw [hN4]; omega, hD4.2.2.2.2.2.1, _, _, _, _, _, rfl, by decide, by decide⟩
        rw [hN4]
        rw [RepS_n]
        unfold RsN
        rw [if_neg (by decide), if_neg (by decide), if_neg (by decide), if_neg (by decide), if_pos (by decide)]
        refine ⟨rfl, by omega, hD4.1, hD4.2.1, ?_⟩
        rw [hD4.2.2.1]
        exact RepM.ag Ag.rf.adv hM3
      · exact wp_some ⟨by omega, hj2, hnA, (hz.fz hF3.1).le (by omega)⟩
    · have h8 := EE.up hF1.1 h2 (i := i) (by omega)
      refine wp_gd hnA ?_
      refine wp_st ?_
      have h9 := h8.2.2.2.w (g := 52) (j := nN T) (v := r) (by omega)
      refine wp_be (q_nd1 h9.bd _) ?_
      exact wp_some ⟨h8.1, h8.2.1, hnA, h9⟩
theorem b_201 (hnf : 5000 ≤ nf) {x1 x2 : Int32} (h : Zb X e T0 B T) (hB : B < 8190) : wp (rj_Model_step_201 (RR nf (d + 19)) nf T x1 x2) (fun r _ T' => inb r 8200 ∧ Zb X e T0 (B + 1) T') := by
  unfold rj_Model_step_201
  refine wp_st ?_
  have h1 := h.w (g := 63) (j := 0) (v := T.1 63 0 + 1) (by omega)
  have hb := h1.2.2.2.2
  have hnA : inb (nI (nN (sI T 63 0 (T.1 63 0 + 1)))) 8200 := nin (by omega) (by omega)
  refine wp_be (q_node h1.2.2.2.1 (by omega) _ _) ?_
  have h2 := h1.nd (k := 26) (p := x2) (by omega)
  refine wp_be (q_rg1 h2.bd) ?_
  refine wp_gd hnA ?_
  refine wp_st ?_
  have h3 := h2.w (g := 58) (j := (nI (nN (sI T 63 0 (T.1 63 0 + 1)))).toNatClampNeg) (v := 0) (by omega)
  refine wp_be (b_block (d := d + 14) hnf h3.bd _) ?_
  refine wp_gd hnA ?_
  refine wp_st ?_
  exact wp_some ⟨hnA, h3.w (by omega)⟩
set_option maxHeartbeats 4000000 in
theorem s_201 (hX : LX X) (hnf : 5000 ≤ nf) (hm : m ≤ 20) (hE : ∀ D, d + 10 ≤ D → IHE X nf m D) (hB : ∀ D, d + 10 ≤ D → IHB X nf m D) (hS : Gs X T1 (i + 1) v g) (hv : v ≤ 20) (hg : g ≤ 8) (hF : Fs T T1) (hN : nN T1 = nN T) (hb : nN T ≤ 2 * i) (h8 : g ≠ 8) : wp (rj_Model_step_201 (RR nf (d + 19)) nf T1 (nI (20 - m)) (nI (xP X i))) (fun r _ T' => SQ X T i (m + 1) (sn (xK X) 4 (i + 1) (sb (pBl (xK X) m (i + 2) v (g + 1)) fun b j v2 g2 => .ok (tD 26 i 0 b tZ, j, v2, g2))) r T') := by
  have hx := hX.1
  have hi1 := hS.1.1.1
  have hb1 : nN T < 8200 := by omega
  have hnA : inb (nI (nN T)) 8200 := nin (by omega) (by omega)
  have ca : (nI (nN T)).toNatClampNeg = nN T := nc (by omega)
  have ep : nI (20 - m) + 1 = nI (21 - m) := by rw [nI_1]; congr 1; omega
  unfold rj_Model_step_201
  refine wp_st ?_
  rw [hS.2.2.2, nI_1]
  have hS' : Gs X (sI T1 63 0 (nI (g + 1))) (i + 1) v (g + 1) := ⟨hS.1.w (by omega), ⟨by rw [sI_ne (by omega), nW_w (by omega)]; exact hS.2.1.1, by rw [nW_w (by omega)]; exact hS.2.1.2⟩, by rw [sI_ne (by omega)]; exact hS.2.2.1, sI_v⟩
  have hF' := hF.w (g := 63) (j := 0) (v := nI (g + 1)) (by omega) (Or.inr (by omega))
  have hN' : nN (sI T1 63 0 (nI (g + 1))) = nN T := by rw [nN_w (by omega), hN]
  generalize sI T1 63 0 (nI (g + 1)) = T2 at *
  clear hS hF hN
  have hS := hS'
  have hF := hF'
  have hN := hN'
  clear hS' hF' hN'
  refine wp_be (q_node hS.1.2.2.1 (by omega) _ _) ?_
  have hS1 := hS.nd (a := nN T2) (k := 26) (p := nI (xP X i)) (by omega)
  have hF1 := hF.nd (k := 26) (p := nI (xP X i)) (by omega)
  have hD1 : ND (ndS T2 (nN T2) 26 (nI (xP X i))) (nN T2) 26 (nI (xP X i)) (-1) (-1) (-1) (-1) (T2.2 56 (nN T2)) (T2.1 57 (nN T2)) (T2.1 58 (nN T2)) 0 (T2.1 61 (nN T2)) := ND.nd
  have hN1 : nN (ndS T2 (nN T2) 26 (nI (xP X i))) = nN T + 1 := by rw [nN_nd (by omega), hN]
  rw [hN] at hS1 hF1 hD1 hN1 ⊢
  generalize ndS T2 (nN T) 26 (nI (xP X i)) = S1 at *
  refine g_region (d := d + 16) hX hS1.1 (fun k4 S2 g1 g2 g3 g4 g5 g6 g7 => ?_) (fun k4 S2 hz => ?_)
  · unfold sn
    rw [if_pos k4, ep, ca]
    have hS2' := hS1.fe g2 g1 (by omega)
    refine wp_gd hnA ?_
    refine wp_st ?_
    have hS2 : Gs X (sI S2 58 (nN T) (nI (nU S1))) (i + 2) v (g + 1) := hS2'.w (by omega)
    have hF2 := (hF1.tr g2.fs).w (g := 58) (j := nN T) (v := nI (nU S1)) (by omega) (Or.inl (Nat.le_refl _))
    have hD2 := (g7 _ _ _ _ _ _ _ _ _ _ _ _ hD1).w58 (v := nI (nU S1))
    have hV2 : RepU X (sI S2 58 (nN T) (nI (nU S1))) (nU S1) (i + 1) 1 := RepU.ag (Ag.rf.w (lo := 0) (hi := 0) (by omega) (by omega)) g5
    have hN2 : nN (sI S2 58 (nN T) (nI (nU S1))) = nN T + 1 := by rw [nN_w (by omega), g4, hN1]
    generalize sI S2 58 (nN T) (nI (nU S1)) = S3 at *
    refine s_blk (hB (d + 19) (by omega) S3 (i + 2) v (g + 1) hS2 hv (by omega) (by omega)) (fun b j2 v2 g2' r2 l2 S4 h4 => ?_) (fun ej r2 l2 S4 h4 => ?_)
    · obtain ⟨c1, c2, c3, c4, c5, c6, c7, q2, c8, c9, c10, c11, c12⟩ := h4
      rw [hN2] at c6 c7 c9
      have hle5 := c5.2.2.1
      rw [hN2] at hle5
      refine wp_gd hnA ?_
      refine wp_st ?_
      have hD5 := (hD2.fs c5 (by omega)).w52 (v := r2)
      have hN5 : nN (sI S4 52 (nN T) r2) = nN S4 := by rw [nN_w (by omega)]
      refine wp_some ⟨by omega, c2.w (by omega), c3, c4, (hF2.tr c5).w (by omega) (Or.inl (Nat.le_refl _)), ?_, by rw [hN5]; omega, nN T, rfl, Nat.le_refl _, by rw [hN5]; omega, hD5.2.2.2.2.2.1, _, _, _, _, _, rfl, by decide, by decide⟩
      rw [hN5]
      rw [RepS_n]
      unfold RsN
      rw [if_neg (by decide), if_neg (by decide), if_neg (by decide), if_neg (by decide), if_neg (by decide), if_neg (by decide), if_neg (by decide), if_pos (by decide)]
      refine ⟨rfl, by omega, hD5.1, hD5.2.1, ⟨nU S1, hD5.2.2.2.2.2.2.2.2.1, RepU.ag (Ag.rf.w (lo := 0) (hi := 0) (by omega) (by omega)) (RepU.ag c5.2.1 hV2)⟩, ?_⟩
      rw [hD5.2.2.1]
      exact RepS.own (Ag.rf.w (by omega) (Or.inl (by omega))) (Aw.w (by omega)) c6
    · have h8 := EE.up hF2.1 h4 (i := i) (by omega)
      refine wp_gd hnA ?_
      refine wp_st ?_
      exact wp_some ⟨h8.1, h8.2.1, hnA, h8.2.2.2.w (by omega)⟩
  · unfold sn
    rw [if_neg k4]
    refine wp_gd hnA ?_
    refine wp_st ?_
    have h3 := (hz.fz hF1.1).w (g := 58) (j := (nI (nN T)).toNatClampNeg) (v := 0) (by omega)
    refine wp_be (b_block (d := d + 14) hnf h3.bd _) ?_
    refine wp_gd hnA ?_
    refine wp_st ?_
    exact wp_some ⟨by omega, hi1, hnA, (h3.w (by omega)).le (by omega)⟩
set_option maxHeartbeats 4000000 in
theorem s_close (hX : LX X) (hnf : 5000 ≤ nf) (hm : m ≤ 20) (hE : ∀ D, d + 10 ≤ D → IHE X nf m D) (hB : ∀ D, d + 10 ≤ D → IHB X nf m D) (hS : Gs X T1 (i + 1) v g) (hv : v ≤ 20) (hg : g ≤ 8) (hF : Fs T T1) (hN : nN T1 = nN T) (hb : nN T ≤ 2 * i) : wp (bi (RR nf (d + 19) 30 T1 [(27 : Int32), nI (xP X i)] []) fun r36 l36 T36 => bi (RR nf (d + 19) 22 T36 [] []) fun r37 l37 T37 => gd (inb r36 8200) <| stK (sI T37 58 r36.toNatClampNeg r37) fun T38 => bi (RR nf (d + 19) 20 T38 [(59 : Int32)] []) fun r39 l39 T39 => some (r36, 0, T39)) (fun r _ T' => SQ X T i (m + 1) (sn (xK X) 4 (i + 1) (sn (xK X) 46 (i + 2) (.ok (tD 27 i 0 tZ tZ, i + 3, v, g)))) r T') := by
  have hx := hX.1
  have hi1 := hS.1.1.1
  have hb1 : nN T < 8200 := by omega
  have hnA : inb (nI (nN T)) 8200 := nin (by omega) (by omega)
  have ca : (nI (nN T)).toNatClampNeg = nN T := nc (by omega)
  have ep : nI (20 - m) + 1 = nI (21 - m) := by rw [nI_1]; congr 1; omega
  refine wp_be (q_node hS.1.2.2.1 (by omega) _ _) ?_
  have hS1 := hS.nd (a := nN T1) (k := 27) (p := nI (xP X i)) (by omega)
  have hF1 := hF.nd (k := 27) (p := nI (xP X i)) (by omega)
  have hD1 : ND (ndS T1 (nN T1) 27 (nI (xP X i))) (nN T1) 27 (nI (xP X i)) (-1) (-1) (-1) (-1) (T1.2 56 (nN T1)) (T1.1 57 (nN T1)) (T1.1 58 (nN T1)) 0 (T1.1 61 (nN T1)) := ND.nd
  have hN1 : nN (ndS T1 (nN T1) 27 (nI (xP X i))) = nN T + 1 := by rw [nN_nd (by omega), hN]
  rw [hN] at hS1 hF1 hD1 hN1 ⊢
  generalize ndS T1 (nN T) 27 (nI (xP X i)) = S1 at *
  refine g_region (d := d + 16) hX hS1.1 (fun k4 S2 g1 g2 g3 g4 g5 g6 g7 => ?_) (fun k4 S2 hz => ?_)
  · unfold sn
    rw [if_pos k4, ca]
    have hS2' := hS1.fe g2 g1 (by omega)
    refine wp_gd hnA ?_
    refine wp_st ?_
    have hS2 : Gs X (sI S2 58 (nN T) (nI (nU S1))) (i + 2) v g := hS2'.w (by omega)
    have hF2 := (hF1.tr g2.fs).w (g := 58) (j := nN T) (v := nI (nU S1)) (by omega) (Or.inl (Nat.le_refl _))
    have hD2 := (g7 _ _ _ _ _ _ _ _ _ _ _ _ hD1).w58 (v := nI (nU S1))
    have hV2 : RepU X (sI S2 58 (nN T) (nI (nU S1))) (nU S1) (i + 1) 1 := RepU.ag (Ag.rf.w (lo := 0) (hi := 0) (by omega) (by omega)) g5
    have hN2 : nN (sI S2 58 (nN T) (nI (nU S1))) = nN T + 1 := by rw [nN_w (by omega), g4, hN1]
    generalize sI S2 58 (nN T) (nI (nU S1)) = S3 at *
    have hj3 := hS2.1.1.1
    refine g_need (d := d + 15) hX 46 hS2.1 rfl (by omega) (by omega) (fun hk hj => ?_) (fun hk S4 hz => ?_)
    · rw [if_pos hk]
      have hN4 : nN (advS S3) = nN T + 1 := by rw [nN_adv, hN2]
      have hD4 := hD2.adv
      refine wp_some ⟨by omega, hS2.adv hX hj, hv, hg, hF2.adv, ?_, by rw [hN4]; omega, nN T, rfl, Nat.le_refl _, by rw [hN4]; omega, hD4.2.2.2.2.2.1, _, _, _, _, _, rfl, by decide, by decide⟩
      rw [hN4]
      rw [RepS_n]
      unfold RsN
      rw [if_neg (by decide), if_neg (by decide), if_neg (by decide), if_neg (by decide), if_neg (by decide), if_neg (by decide), if_neg (by decide), if_neg (by decide), if_pos (by decide)]
      exact ⟨rfl, rfl, hD4.1, hD4.2.1, nU S1, hD4.2.2.2.2.2.2.2.2.1, RepU.ag (Ag.rf.adv (lo := 0) (hi := 0)) hV2⟩
    · rw [if_neg hk]
      exact wp_some ⟨by omega, hj3, hnA, (hz.fz hF2.1).le (by omega)⟩
  · unfold sn
    rw [if_neg k4]
    refine wp_gd hnA ?_
    refine wp_st ?_
    have h3 := (hz.fz hF1.1).w (g := 58) (j := (nI (nN T)).toNatClampNeg) (v := 0) (by omega)
    refine wp_be (q_nd1 h3.bd _) ?_
    exact wp_some ⟨by omega, hi1, hnA, h3.le (by omega)⟩
set_option maxHeartbeats 4000000 in
theorem s_try (hX : LX X) (hnf : 5000 ≤ nf) (hm : m ≤ 20) (hE : ∀ D, d + 10 ≤ D → IHE X nf m D) (hB : ∀ D, d + 10 ≤ D → IHB X nf m D) (hS : Gs X T1 (i + 1) v g) (hv : v ≤ 20) (hg : g ≤ 8) (hF : Fs T T1) (hN : nN T1 = nN T) (hb : nN T ≤ 2 * i) : wp (bi (RR nf (d + 19) 30 T1 [(28 : Int32), nI (xP X i)] []) fun r24 l24 T24 => bi (RR nf (d + 19) 31 T24 [nI (20 - m) + (1 : Int32)] []) fun r25 l25 T25 => gd (inb r24 8200) <| stK (sI T25 52 r24.toNatClampNeg r25) fun T26 => bi (RR nf (d + 19) 19 T26 [nI 29] []) fun r27 l27 T27 => if r27 = (0 : Int32) then (bi (RR nf (d + 19) 15 T27 [] []) fun r32 l32 T32 => bi (RR nf (d + 19) 31 T32 [nI (20 - m) + (1 : Int32)] []) fun r33 l33 T33 => gd (inb r24 8200) <| stK (sI T33 53 r24.toNatClampNeg r33) fun T34 => some (r24, 0, T34)) else (bi (RR nf (d + 19) 31 T27 [nI (20 - m) + (1 : Int32)] []) fun r29 l29 T29 => gd (inb r24 8200) <| stK (sI T29 53 r24.toNatClampNeg r29) fun T30 => some (r24, 0, T30))) (fun r _ T' => SQ X T i (m + 1) (sb (pBl (xK X) m (i + 1) v g) fun b j v2 g2 => sn (xK X) 24 j (sb (pBl (xK X) m (j + 1) v2 g2) fun c j3 v3 g3 => .ok (tD 28 i 0 b c, j3, v3, g3))) r T') := by
  have hx := hX.1
  have hi1 := hS.1.1.1
  have hb1 : nN T < 8200 := by omega
  have hnA : inb (nI (nN T)) 8200 := nin (by omega) (by omega)
  have ca : (nI (nN T)).toNatClampNeg = nN T := nc (by omega)
  have ep : nI (20 - m) + 1 = nI (21 - m) := by rw [nI_1]; congr 1; omega
  refine wp_be (q_node hS.1.2.2.1 (by omega) _ _) ?_
  have hS1 := hS.nd (a := nN T1) (k := 28) (p := nI (xP X i)) (by omega)
  have hF1 := hF.nd (k := 28) (p := nI (xP X i)) (by omega)
  have hD1 : ND (ndS T1 (nN T1) 28 (nI (xP X i))) (nN T1) 28 (nI (xP X i)) (-1) (-1) (-1) (-1) (T1.2 56 (nN T1)) (T1.1 57 (nN T1)) (T1.1 58 (nN T1)) 0 (T1.1 61 (nN T1)) := ND.nd
  have hN1 : nN (ndS T1 (nN T1) 28 (nI (xP X i))) = nN T + 1 := by rw [nN_nd (by omega), hN]
  rw [hN] at hS1 hF1 hD1 hN1 ⊢
  generalize ndS T1 (nN T) 28 (nI (xP X i)) = S1 at *
  rw [ep, ca]
  have bd3 : ∀ S ej, Zb X ej T (2 * ej + 4 * (m + 1) + 4) S → i ≤ ej → ej ≤ xn X → wp (bi (RR nf (d + 19) 15 S [] []) fun r32 l32 T32 => bi (RR nf (d + 19) 31 T32 [nI (21 - m)] []) fun r33 l33 T33 => gd (inb (nI (nN T)) 8200) <| stK (sI T33 53 (nN T) r33) fun T34 => some (nI (nN T), 0, T34)) (fun r2 _ T2 => EE X T i (m + 1) ej r2 T2) := by
    intro S ej h1 h2 h3
    refine wp_be (q_wrong1 h1.bd) ?_
    refine wp_be (b_block (d := d + 14) hnf h1.bd _) ?_
    refine wp_gd hnA ?_
    refine wp_st ?_
    exact wp_some ⟨h2, h3, hnA, h1.w (by omega)⟩
  refine s_blk (hB (d + 19) (by omega) S1 (i + 1) v g hS1 hv hg (by omega)) (fun b j v2 g2 r l S2 h2 => ?_) (fun ej r l S2 h2 => ?_)
  · obtain ⟨c1, c2, c3, c4, c5, c6, c7, q2, c8, c9, c10, c11, c12⟩ := h2
    have hj2 := c2.1.1.1
    rw [hN1] at c6 c7 c9
    have hle2 := c5.2.2.1
    rw [hN1] at hle2
    refine wp_gd hnA ?_
    refine wp_st ?_
    have hS3 := c2.w (g' := 52) (j := nN T) (x := r) (by omega)
    have hF3 := (hF1.tr c5).w (g := 52) (j := nN T) (v := r) (by omega) (Or.inl (Nat.le_refl _))
    have hD3 := (hD1.fs c5 (by omega)).w52 (v := r)
    have hR3 : RepS X (sI S2 52 (nN T) r) b (nN T + 1) (nN T + 1) (nN S2) r := RepS.own (Ag.rf.w (by omega) (Or.inl (by omega))) (Aw.w (by omega)) c6
    have hN3 : nN (sI S2 52 (nN T) r) = nN S2 := by rw [nN_w (by omega)]
    generalize sI S2 52 (nN T) r = S3 at *
    unfold sn
    by_cases k24 : xK X j = 24
    · have hj3 := hS3.1.lt hX (by omega)
      rw [if_pos k24]
      refine wp_be (q_twY hX hS3.1.1 hS3.1.2.1 29 (by omega) (by omega) k24) ?_
      refine wp_f (by decide) ?_
      have hS4 := hS3.adv hX hj3
      refine s_blk (hB (d + 19) (by omega) (advS S3) (j + 1) v2 g2 hS4 c3 c4 (by rw [nN_adv, hN3]; omega)) (fun c j3 v3 g3 r3 l3 S7 h7 => ?_) (fun ej r3 l3 S7 h7 => ?_)
      · obtain ⟨d1, d2, d3, d4, d5, d6, d7, q3, d8, d9, d10, d11, d12⟩ := h7
        rw [nN_adv, hN3] at d6 d7 d9
        have hle7 := d5.2.2.1
        rw [nN_adv, hN3] at hle7
        refine wp_gd hnA ?_
        refine wp_st ?_
        have hD8 := (hD3.adv.fs d5 (by rw [nN_adv, hN3]; omega)).w53 (v := r3)
        have hN8 : nN (sI S7 53 (nN T) r3) = nN S7 := by rw [nN_w (by omega)]
        have ag1 : ∀ lo hi, nN T < lo → hi ≤ nN S2 → Ag S3 (sI S7 53 (nN T) r3) lo hi := fun lo hi h1 h2 => ((Ag.rf.adv (T := S3)).tr (d5.2.1.sub (a := lo) (b := hi) (by omega) (by rw [nN_adv, hN3]; omega)) (Nat.le_refl _) (Nat.le_refl _)).w (by omega) (Or.inl (by omega))
        have aw1 : Aw S3 (sI S7 53 (nN T) r3) := (Fe.rf.adv.aw.tr d5.2.2.2).tr (Aw.w (by omega))
        refine wp_some ⟨by omega, d2.w (by omega), d3, d4, (hF3.adv.tr d5).w (by omega) (Or.inl (Nat.le_refl _)), ?_, by rw [hN8]; omega, nN T, rfl, Nat.le_refl _, by rw [hN8]; omega, hD8.2.2.2.2.2.1, _, _, _, _, _, rfl, by decide, by decide⟩
        rw [hN8]
        rw [RepS_n]
        unfold RsN
        rw [if_neg (by decide), if_neg (by decide), if_neg (by decide), if_neg (by decide), if_neg (by decide), if_neg (by decide), if_neg (by decide), if_neg (by decide), if_neg (by decide), if_pos (by decide)]
        refine ⟨rfl, hD8.1, hD8.2.1, nN S2, by omega, by omega, ?_, ?_⟩
        · rw [hD8.2.2.1]; exact RepS.own (ag1 _ _ (by omega) (by omega)) aw1 hR3
        · rw [hD8.2.2.2.1]; exact RepS.own (Ag.rf.w (by omega) (Or.inl (by omega))) (Aw.w (by omega)) d6
      · refine wp_gd hnA ?_
        refine wp_st ?_
        have h8 := EE.up (hF3.adv.1) h7 (i := i) (by omega)
        exact wp_some ⟨h8.1, h8.2.1, hnA, h8.2.2.2.w (by omega)⟩
    · rw [if_neg k24]
      refine wp_be (q_twN hX hS3.1.1 29 (by omega) (by omega) (by show xK X j ≠ 24; omega)) ?_
      refine wp_t rfl ?_
      refine wp_be (q_wrong0 hS3.1.2.1) ?_
      have hz := hS3.1.fail (B := nN S3) hF3.1 (Nat.le_refl _)
      refine wp_be (b_block (d := d + 14) hnf hz.bd _) ?_
      refine wp_gd hnA ?_
      refine wp_st ?_
      exact wp_some ⟨by omega, hj2, hnA, (hz.w (by omega)).le (by omega)⟩
  · have h8 := EE.up hF1.1 h2 (i := i) (by omega)
    refine wp_gd hnA ?_
    refine wp_st ?_
    have h9 := h8.2.2.2.w (g := 52) (j := nN T) (v := r) (by omega)
    refine wp_be (q_tw1 h9.bd 29) ?_
    refine wp_t rfl ?_
    exact bd3 _ ej h9 h8.1 h8.2.1
end SX
