/-! STEPS of an EXPR; all STEPS -/
section SY
variable {nf d : Nat} {T T0 T1 T2 : gSt} {X : Lx} {e B i j m n v g : Nat}
theorem b_415 (hnf : 5000 ≤ nf) {x1 x2 x4 x5 x6 y0 : Int32} (h : Zb X e T0 B T) (hB : B < 8190) : wp (rj_Model_step_415 (RR nf (d + 19)) nf T x1 x2 x4 x5 x6 y0) (fun r _ T' => inb r 8200 ∧ Zb X e T0 (B + 1) T') := by
  have hb := h.2.2.2.2
  have hnA : inb (nI (nN T)) 8200 := nin (by omega) (by omega)
  unfold rj_Model_step_415
  refine wp_be (q_node h.2.2.2.1 (by omega) _ _) ?_
  have h1 := h.nd (k := y0) (p := x2) (by omega)
  refine wp_gd hnA ?_
  refine wp_st ?_
  have h2 := h1.w (g := 52) (j := (nI (nN T)).toNatClampNeg) (v := x6) (by omega)
  refine wp_if (fun _ => ?_) (fun _ => ?_)
  · refine wp_if (fun _ => ?_) (fun _ => ?_)
    · refine wp_be (q_tk1 h2.bd _) ?_
      refine wp_t rfl ?_
      refine wp_be (q_nd1 h2.bd _) ?_
      exact wp_some ⟨hnA, h2⟩
    · refine wp_be (q_nd1 h2.bd _) ?_
      exact wp_some ⟨hnA, h2⟩
  · refine wp_be (q_nd1 h2.bd _) ?_
    exact wp_some ⟨hnA, h2⟩
theorem b_383 (hnf : 5000 ≤ nf) {x1 x2 x4 x5 r : Int32} {i1 : Nat} (hxn : xn X ≤ 4000) (hm : m ≤ 20) (hF : Fz T T1) (hi : i ≤ i1) (h : EE X T1 i1 m e r T2) : wp (if x4 = (0 : Int32) then (if x5 = (0 : Int32) then (rj_Model_step_415 (RR nf (d + 19)) nf T2 x1 x2 x4 x5 r (30 : Int32)) else (rj_Model_step_415 (RR nf (d + 19)) nf T2 x1 x2 x4 x5 r (25 : Int32))) else (rj_Model_step_415 (RR nf (d + 19)) nf T2 x1 x2 x4 x5 r (24 : Int32))) (fun r2 _ T2 => EE X T i (m + 1) e r2 T2) := by
  have he := h.2.1
  have hz := h.2.2.2.fz hF
  have fin : ∀ y0, wp (rj_Model_step_415 (RR nf (d + 19)) nf T2 x1 x2 x4 x5 r y0) (fun r2 _ T2 => EE X T i (m + 1) e r2 T2) := by
    intro y0
    refine wp_mono (b_415 hnf hz (by omega)) ?_
    intro r2 l2 S h2
    exact ⟨by have := h.1; omega, h.2.1, h2.1, h2.2.le (by omega)⟩
  exact wp_if (fun _ => wp_if (fun _ => fin 30) (fun _ => fin 25)) (fun _ => fin 24)
set_option maxHeartbeats 4000000 in
theorem s_word (hX : LX X) (hnf : 5000 ≤ nf) (hm : m ≤ 20) (hE : ∀ D, d + 10 ≤ D → IHE X nf m D) (hB : ∀ D, d + 10 ≤ D → IHB X nf m D) (hS : Gs X T1 (i + 1) v g) (hv : v ≤ 20) (hg : g ≤ 8) (hF : Fs T T1) (hN : nN T1 = nN T) (hb : nN T ≤ 2 * i) {x4 x5 : Int32} (kk : Nat) (hy : x4 = 1 ∧ kk = 24 ∨ x4 = 0 ∧ x5 = 1 ∧ kk = 25) : wp (rj_Model_step_383 (RR nf (d + 19)) nf T1 (nI (20 - m)) (nI (xP X i)) x4 x5) (fun r _ T' => SQ X T i (m + 1) (se (pEx (xK X) m 0 (i + 1)) fun a j => sn (xK X) 46 j (.ok (tD kk i 0 a tZ, j + 1, v, g))) r T') := by
  have hx := hX.1
  have hi1 := hS.1.1.1
  have ep : nI (20 - m) + 1 = nI (21 - m) := by rw [nI_1]; congr 1; omega
  unfold rj_Model_step_383
  rw [ep]
  refine s_sub (hE (d + 19) (by omega) T1 (i + 1) hS.1 (by omega)) (fun a j r l S2 h2 => ?_) (fun ej r l S2 h2 => ?_)
  · have hS2 := hS.sub h2
    obtain ⟨b1, b2, b3, b4, b5, q, b6, b7, b8, b9⟩ := h2
    have hj2 := b2.1.1
    rw [hN] at b4 b5 b7
    have hb2 : nN S2 < 8200 := by omega
    have hnA : inb (nI (nN S2)) 8200 := nin (by omega) (by omega)
    have ca : (nI (nN S2)).toNatClampNeg = nN S2 := nc (by omega)
    have hF2 := hF.tr b3.fs
    have hle := b3.2.2.1
    rw [hN] at hle
    have main : ∀ y0 : Int32, y0 = nI kk → (x4 = 0 → ¬ x5 = 0) → (kk = 24 ∨ kk = 25) → wp (rj_Model_step_415 (RR nf (d + 19)) nf S2 (nI (20 - m)) (nI (xP X i)) x4 x5 r y0) (fun r _ T' => SQ X T i (m + 1) (sn (xK X) 46 j (.ok (tD kk i 0 a tZ, j + 1, v, g))) r T') := by
      intro y0 hy0 hx45 hkk
      unfold rj_Model_step_415
      refine wp_be (q_node hS2.1.2.2.1 hb2 _ _) ?_
      refine wp_gd hnA ?_
      refine wp_st ?_
      rw [ca]
      have hS3 : Gs X (sI (ndS S2 (nN S2) y0 (nI (xP X i))) 52 (nN S2) r) j v g := (hS2.nd hb2).w (by omega)
      have hF3 : Fs T (sI (ndS S2 (nN S2) y0 (nI (xP X i))) 52 (nN S2) r) := (hF2.nd hb2).w (by omega) (Or.inl (by omega))
      have hD3 : ND (sI (ndS S2 (nN S2) y0 (nI (xP X i))) 52 (nN S2) r) (nN S2) y0 (nI (xP X i)) r (-1) (-1) (-1) (S2.2 56 (nN S2)) (S2.1 57 (nN S2)) (S2.1 58 (nN S2)) 0 (S2.1 61 (nN S2)) := ND.nd.w52
      have hM3 : RepM X (sI (ndS S2 (nN S2) y0 (nI (xP X i))) 52 (nN S2) r) a (nN T) (nN S2) r := RepM.ag ((Ag.rf.nd (Or.inr (Nat.le_refl _))).w (by omega) (Or.inr (Nat.le_refl _))) b4
      have hN3 : nN (sI (ndS S2 (nN S2) y0 (nI (xP X i))) 52 (nN S2) r) = nN S2 + 1 := by rw [nN_w (by omega), nN_nd hb2]
      generalize sI (ndS S2 (nN S2) y0 (nI (xP X i))) 52 (nN S2) r = S3 at *
      have fin : wp (bi (RR nf (d + 19) 20 S3 [(59 : Int32)] []) fun r85 l85 T85 => some (nI (nN S2), 0, T85)) (fun r _ T' => SQ X T i (m + 1) (sn (xK X) 46 j (.ok (tD kk i 0 a tZ, j + 1, v, g))) r T') := by
        refine s_need (d := d + 15) hX 46 hS3.1 rfl (by omega) (by omega) (fun hk hj => ?_) (fun S4 hz => ?_)
        · have hN4 : nN (advS S3) = nN S2 + 1 := by rw [nN_adv, hN3]
          have hD4 := hD3.adv
          refine wp_some ⟨by omega, hS3.adv hX hj, hv, hg, hF3.adv, ?_, by rw [hN4]; omega, nN S2, rfl, by omega, by rw [hN4]; omega, hD4.2.2.2.2.2.1, _, _, _, _, _, rfl, by omega, by omega⟩
          rw [hN4]
          rw [RepS_n]
          unfold RsN
          rw [if_neg (by omega), if_neg (by omega), if_neg (by omega), if_neg (by omega), if_neg (by omega), if_pos (by omega)]
          refine ⟨nN S2, rfl, by omega, rfl, ?_, hD4.1.trans hy0, hD4.2.1⟩
          rw [hD4.2.2.1]
          exact RepM.ag Ag.rf.adv hM3
        · exact wp_some ⟨by omega, hj2, hnA, (hz.fz hF3.1).le (by omega)⟩
      refine wp_if (fun c4 => ?_) (fun _ => fin)
      exact wp_f (hx45 c4) fin
    rcases hy with ⟨hy1, hy2⟩ | ⟨hy1, hy2, hy3⟩
    · refine wp_f (show ¬ x4 = 0 by rw [hy1]; decide) ?_
      exact main 24 (by rw [hy2]; rfl) (fun c => absurd (hy1.symm.trans c) (by decide)) (Or.inl hy2)
    · refine wp_t (show x4 = 0 from hy1) ?_
      refine wp_f (show ¬ x5 = 0 by rw [hy2]; decide) ?_
      exact main 25 (by rw [hy3]; rfl) (fun _ => by rw [hy2]; decide) (Or.inr hy3)
  · have he := h2.2.1
    exact b_383 (d := d) hnf hx hm hF.1 (by omega) h2
set_option maxHeartbeats 4000000 in
theorem s_plain (hX : LX X) (hnf : 5000 ≤ nf) (hm : m ≤ 20) (hE : ∀ D, d + 10 ≤ D → IHE X nf m D) (hB : ∀ D, d + 10 ≤ D → IHB X nf m D) (hS : Gs X T i v g) (hv : v ≤ 20) (hg : g ≤ 8) (hb : nN T ≤ 2 * i) : wp (rj_Model_step_383 (RR nf (d + 19)) nf T (nI (20 - m)) (nI (xP X i)) 0 0) (fun r _ T' => SQ X T i (m + 1) (se (pEx (xK X) m 0 i) fun a j => if xK X j = 50 then se (pEx (xK X) m 0 (j + 1)) fun b j2 => sn (xK X) 46 j2 (.ok (tD 29 i 0 a b, j2 + 1, v, g)) else sn (xK X) 46 j (.ok (tD 30 i 0 a tZ, j + 1, v, g))) r T') := by
  have hx := hX.1
  have hi1 := hS.1.1.1
  have ep : nI (20 - m) + 1 = nI (21 - m) := by rw [nI_1]; congr 1; omega
  unfold rj_Model_step_383
  rw [ep]
  refine s_sub (hE (d + 19) (by omega) T i hS.1 (by omega)) (fun a j r l S2 h2 => ?_) (fun ej r l S2 h2 => ?_)
  · have hS2 := hS.sub h2
    obtain ⟨b1, b2, b3, b4, b5, q, b6, b7, b8, b9⟩ := h2
    have hj2 := b2.1.1
    have hb2 : nN S2 < 8200 := by omega
    have hnA : inb (nI (nN S2)) 8200 := nin (by omega) (by omega)
    have ca : (nI (nN S2)).toNatClampNeg = nN S2 := nc (by omega)
    have hF2 : Fs T S2 := b3.fs
    have hle := b3.2.2.1
    refine wp_t rfl ?_
    refine wp_t rfl ?_
    unfold rj_Model_step_415
    refine wp_be (q_node hS2.1.2.2.1 hb2 _ _) ?_
    refine wp_gd hnA ?_
    refine wp_st ?_
    rw [ca, ep]
    have hS3 : Gs X (sI (ndS S2 (nN S2) 30 (nI (xP X i))) 52 (nN S2) r) j v g := (hS2.nd hb2).w (by omega)
    have hF3 : Fs T (sI (ndS S2 (nN S2) 30 (nI (xP X i))) 52 (nN S2) r) := (hF2.nd hb2).w (by omega) (Or.inl (by omega))
    have hD3 : ND (sI (ndS S2 (nN S2) 30 (nI (xP X i))) 52 (nN S2) r) (nN S2) 30 (nI (xP X i)) r (-1) (-1) (-1) (S2.2 56 (nN S2)) (S2.1 57 (nN S2)) (S2.1 58 (nN S2)) 0 (S2.1 61 (nN S2)) := ND.nd.w52
    have hM3 : RepM X (sI (ndS S2 (nN S2) 30 (nI (xP X i))) 52 (nN S2) r) a (nN T) (nN S2) r := RepM.ag ((Ag.rf.nd (Or.inr (Nat.le_refl _))).w (by omega) (Or.inr (Nat.le_refl _))) b4
    have hN3 : nN (sI (ndS S2 (nN S2) 30 (nI (xP X i))) 52 (nN S2) r) = nN S2 + 1 := by rw [nN_w (by omega), nN_nd hb2]
    generalize sI (ndS S2 (nN S2) 30 (nI (xP X i))) 52 (nN S2) r = S3 at *
    refine wp_t rfl ?_
    refine wp_t rfl ?_
    by_cases k50 : xK X j = 50
    · have hj3 := hS3.1.lt hX (by omega)
      rw [if_pos k50]
      refine wp_be (q_tkY hX hS3.1.1 hS3.1.2.1 50 rfl k50 (by omega)) ?_
      refine wp_f (by decide) ?_
      refine wp_gd hnA ?_
      refine wp_st ?_
      have hS4 := (hS3.adv hX hj3).w (g' := 50) (j := nN S2) (x := 29) (by omega)
      have hF4 := hF3.adv.w (g := 50) (j := nN S2) (v := 29) (by omega) (Or.inl (by omega))
      have hD4 := hD3.adv.w50 (v := 29)
      have hM4 : RepM X (sI (advS S3) 50 (nN S2) 29) a (nN T) (nN S2) r := RepM.ag (Ag.rf.adv.w (by omega) (Or.inr (Nat.le_refl _))) hM3
      have hN4 : nN (sI (advS S3) 50 (nN S2) 29) = nN S2 + 1 := by rw [nN_w (by omega), nN_adv, hN3]
      generalize sI (advS S3) 50 (nN S2) 29 = S4 at *
      refine s_sub (hE (d + 19) (by omega) S4 (j + 1) hS4.1 (by omega)) (fun b j2 r2 l2 S5 h5 => ?_) (fun ej r2 l2 S5 h5 => ?_)
      · have hS5 := hS4.sub h5
        obtain ⟨c1, c2, c3, c4, c5, q2, c6, c7, c8, c9⟩ := h5
        have hj5 := c2.1.1
        rw [hN4] at c4 c5 c7
        refine wp_gd hnA ?_
        refine wp_st ?_
        have hS6 := hS5.w (g' := 53) (j := nN S2) (x := r2) (by omega)
        have hF6 := (hF4.tr c3.fs).w (g := 53) (j := nN S2) (v := r2) (by omega) (Or.inl (by omega))
        have hD6 := (hD4.fe c3 (by omega)).w53 (v := r2)
        have hM6 : RepM X (sI S5 53 (nN S2) r2) a (nN T) (nN S2) r := RepM.ag ((c3.2.1.sub (by omega) (by omega)).w (by omega) (Or.inr (Nat.le_refl _))) hM4
        have hM7 : RepM X (sI S5 53 (nN S2) r2) b (nN S2 + 1) (nN S5) r2 := RepM.ag (Ag.rf.w (by omega) (Or.inl (by omega))) c4
        have hN6 : nN (sI S5 53 (nN S2) r2) = nN S5 := by rw [nN_w (by omega)]
        generalize sI S5 53 (nN S2) r2 = S6 at *
        refine s_need (d := d + 15) hX 46 hS6.1 rfl (by omega) (by omega) (fun hk hj => ?_) (fun S7 hz => ?_)
        · have hN7 : nN (advS S6) = nN S5 := by rw [nN_adv, hN6]
          have hD7 := hD6.adv
          refine wp_some ⟨by omega, hS6.adv hX hj, hv, hg, hF6.adv, ?_, by rw [hN7]; omega, nN S2, rfl, by omega, by rw [hN7]; omega, hD7.2.2.2.2.2.1, _, _, _, _, _, rfl, by decide, by decide⟩
          rw [hN7]
          rw [RepS_n]
          unfold RsN
          rw [if_neg (by decide), if_neg (by decide), if_neg (by decide), if_neg (by decide), if_neg (by decide), if_neg (by decide), if_pos (by decide)]
          refine ⟨nN S2, rfl, by omega, by omega, ?_, ?_, hD7.1, hD7.2.1⟩
          · rw [hD7.2.2.1]; exact RepM.ag Ag.rf.adv hM6
          · rw [hD7.2.2.2.1]; exact RepM.ag Ag.rf.adv hM7
        · exact wp_some ⟨by omega, hj5, hnA, (hz.fz hF6.1).le (by omega)⟩
      · have h8 := EE.up hF4.1 h5 (i := i) (by omega)
        refine wp_gd hnA ?_
        refine wp_st ?_
        have h9 := h8.2.2.2.w (g := 53) (j := nN S2) (v := r2) (by omega)
        refine wp_be (q_nd1 h9.bd _) ?_
        exact wp_some ⟨h8.1, h8.2.1, hnA, h9⟩
    · rw [if_neg k50]
      refine wp_be (q_tkN hX hS3.1.1 hS3.1.2.1 50 rfl k50 (by omega) (by omega)) ?_
      refine wp_t rfl ?_
      refine s_need (d := d + 15) hX 46 hS3.1 rfl (by omega) (by omega) (fun hk hj => ?_) (fun S4 hz => ?_)
      · have hN4 : nN (advS S3) = nN S2 + 1 := by rw [nN_adv, hN3]
        have hD4 := hD3.adv
        refine wp_some ⟨by omega, hS3.adv hX hj, hv, hg, hF3.adv, ?_, by rw [hN4]; omega, nN S2, rfl, by omega, by rw [hN4]; omega, hD4.2.2.2.2.2.1, _, _, _, _, _, rfl, by omega, by omega⟩
        rw [hN4]
        rw [RepS_n]
        unfold RsN
        rw [if_neg (by decide), if_neg (by decide), if_neg (by decide), if_neg (by decide), if_neg (by decide), if_pos (by decide)]
        refine ⟨nN S2, rfl, by omega, rfl, ?_, hD4.1, hD4.2.1⟩
        rw [hD4.2.2.1]
        exact RepM.ag Ag.rf.adv hM3
      · exact wp_some ⟨by omega, hj2, hnA, (hz.fz hF3.1).le (by omega)⟩
  · have he := h2.2.1
    exact b_383 (d := d) hnf hx hm Fz.rf (by omega) h2
theorem Gd.failp {B n : Nat} (h : Gd X T n) (hF : Fz T0 T) (hB : nN T ≤ B) (i : Nat) : Zb X i T0 B (failS T 1 (nI (xP X i))) := by
  have e7 : (failS T 1 (nI (xP X i))).1 7 0 = 1 := by unfold failS; simp only [rdI]; simp
  have e8 : (failS T 1 (nI (xP X i))).1 8 0 = nI (xP X i) := by unfold failS; simp only [rdI]; simp
  have e49 : (failS T 1 (nI (xP X i))).1 49 = T.1 49 := by unfold failS; rw [sI_ne (by omega), sI_ne (by omega)]
  have eN : nN (failS T 1 (nI (xP X i))) = nN T := by unfold nN; rw [e49]
  exact ⟨e7, e8, hF.fail, by rw [eN, e49]; exact h.2.2.1, by rw [eN]; exact hB⟩
set_option maxHeartbeats 4000000 in
theorem x_step (hX : LX X) (hnf : 5000 ≤ nf) (hm : m ≤ 20) (hE : ∀ D, d + 10 ≤ D → IHE X nf m D) (hB : ∀ D, d + 10 ≤ D → IHB X nf m D) (hS : Gs X T i v g) (hv : v ≤ 20) (hg : g ≤ 8) (hb : nN T ≤ 2 * i) : wp (RR nf (d + 20) 32 T [nI (20 - m)] []) (fun r _ T' => SQ X T i (m + 1) (pStep (xK X) (pEx (xK X) m 0) (pBl (xK X) m) i v g) r T') := by
  have hx := hX.1
  have hi0 := hS.1.1.1
  have hF : Fs T (advS T) := Fs.rf.adv
  have hN : nN (advS T) = nN T := nN_adv
  rw [e_Model_step]
  unfold rb_Model_step
  refine wp_v ?_
  rw [hS.1.pl]
  unfold pStep
  by_cases k15 : xK X i = 15
  · rw [if_pos k15]
    have hi := hS.1.lt hX (by omega)
    refine wp_be (q_twY hX hS.1.1 hS.1.2.1 12 (by omega) (by omega) k15) ?_
    refine wp_f (by decide) ?_
    refine wp_bi (s_var hX hnf hm hE hB (hS.adv hX hi) hv hg hF hN hb) ?_
    intro r l T' h
    exact wp_some h
  rw [if_neg k15]
  by_cases k18 : xK X i = 18
  · rw [if_pos k18]
    have hi := hS.1.lt hX (by omega)
    refine wp_be (q_twN hX hS.1.1 12 (by omega) (by omega) (by show xK X i ≠ 15; omega)) ?_
    refine wp_t rfl ?_
    refine wp_be (q_wdY hX hS.1.1 hS.1.2.1 22 (by omega) (by omega) k18) ?_
    refine wp_f (by decide) ?_
    refine wp_be (q_adv hX hS.1.1) ?_
    refine wp_f (by decide) ?_
    have h := s_60 hX hnf hm hE hB (hS.adv hX hi) hv hg hF hN hb (x3 := 1) (y0 := 22) (Or.inr ⟨rfl, rfl⟩)
    simp only [if_neg (show ¬ (1 : Int32) = 0 by decide)] at h
    exact h
  rw [if_neg k18]
  by_cases k16 : xK X i = 16
  · rw [if_pos k16]
    have hi := hS.1.lt hX (by omega)
    refine wp_be (q_twN hX hS.1.1 12 (by omega) (by omega) (by show xK X i ≠ 15; omega)) ?_
    refine wp_t rfl ?_
    refine wp_be (q_wdN hX hS.1.1 22 (by omega) (by omega) (by show xK X i ≠ 18; omega)) ?_
    refine wp_t rfl ?_
    refine wp_be (q_wdY hX hS.1.1 hS.1.2.1 23 (by omega) (by omega) k16) ?_
    refine wp_f (by decide) ?_
    refine wp_be (q_adv hX hS.1.1) ?_
    refine wp_t rfl ?_
    have h := s_60 hX hnf hm hE hB (hS.adv hX hi) hv hg hF hN hb (x3 := 0) (y0 := 21) (Or.inl ⟨rfl, rfl⟩)
    simp only [if_pos (show (0 : Int32) = 0 from rfl)] at h
    exact h
  rw [if_neg k16]
  by_cases k19 : xK X i = 19
  · rw [if_pos k19]
    have hi := hS.1.lt hX (by omega)
    refine wp_be (q_twN hX hS.1.1 12 (by omega) (by omega) (by show xK X i ≠ 15; omega)) ?_
    refine wp_t rfl ?_
    refine wp_be (q_wdN hX hS.1.1 22 (by omega) (by omega) (by show xK X i ≠ 18; omega)) ?_
    refine wp_t rfl ?_
    refine wp_be (q_wdN hX hS.1.1 23 (by omega) (by omega) (by show xK X i ≠ 16; omega)) ?_
    refine wp_t rfl ?_
    refine wp_be (q_twY hX hS.1.1 hS.1.2.1 25 (by omega) (by omega) k19) ?_
    refine wp_f (by decide) ?_
    exact s_ret hX hnf hm hE hB (hS.adv hX hi) hv hg hF hN hb
  rw [if_neg k19]
  by_cases k21 : xK X i = 21
  · rw [if_pos k21]
    have hi := hS.1.lt hX (by omega)
    refine wp_be (q_twN hX hS.1.1 12 (by omega) (by omega) (by show xK X i ≠ 15; omega)) ?_
    refine wp_t rfl ?_
    refine wp_be (q_wdN hX hS.1.1 22 (by omega) (by omega) (by show xK X i ≠ 18; omega)) ?_
    refine wp_t rfl ?_
    refine wp_be (q_wdN hX hS.1.1 23 (by omega) (by omega) (by show xK X i ≠ 16; omega)) ?_
    refine wp_t rfl ?_
    refine wp_be (q_twN hX hS.1.1 25 (by omega) (by omega) (by show xK X i ≠ 19; omega)) ?_
    refine wp_t rfl ?_
    refine wp_be (q_twY hX hS.1.1 hS.1.2.1 26 (by omega) (by omega) k21) ?_
    refine wp_f (by decide) ?_
    have hS1 := hS.adv hX hi
    by_cases g8 : g = 8
    · rw [if_pos g8]
      refine wp_t (by rw [hS1.2.2.2, g8]; rfl) ?_
      refine wp_be (q_fail0 hS1.1.2.1 _ _) ?_
      refine wp_mono (b_201 hnf (hS1.1.failp hF.1 (Nat.le_refl _) i) (by rw [hN]; omega)) ?_
      intro r l S h
      exact ⟨Nat.le_refl _, hi0, h.1, h.2.le (by rw [hN]; omega)⟩
    · rw [if_neg g8]
      refine wp_f (fun q => g8 (by rw [hS1.2.2.2] at q; exact nI_inj (a := g) (b := 8) (by omega) (by omega) q)) ?_
      exact s_201 hX hnf hm hE hB hS1 hv hg hF hN hb g8
  rw [if_neg k21]
  by_cases k22 : xK X i = 22
  · rw [if_pos k22]
    have hi := hS.1.lt hX (by omega)
    refine wp_be (q_twN hX hS.1.1 12 (by omega) (by omega) (by show xK X i ≠ 15; omega)) ?_
    refine wp_t rfl ?_
    refine wp_be (q_wdN hX hS.1.1 22 (by omega) (by omega) (by show xK X i ≠ 18; omega)) ?_
    refine wp_t rfl ?_
    refine wp_be (q_wdN hX hS.1.1 23 (by omega) (by omega) (by show xK X i ≠ 16; omega)) ?_
    refine wp_t rfl ?_
    refine wp_be (q_twN hX hS.1.1 25 (by omega) (by omega) (by show xK X i ≠ 19; omega)) ?_
    refine wp_t rfl ?_
    refine wp_be (q_twN hX hS.1.1 26 (by omega) (by omega) (by show xK X i ≠ 21; omega)) ?_
    refine wp_t rfl ?_
    refine wp_be (q_twY hX hS.1.1 hS.1.2.1 27 (by omega) (by omega) k22) ?_
    refine wp_f (by decide) ?_
    exact s_close hX hnf hm hE hB (hS.adv hX hi) hv hg hF hN hb
  rw [if_neg k22]
  by_cases k23 : xK X i = 23
  · rw [if_pos k23]
    have hi := hS.1.lt hX (by omega)
    refine wp_be (q_twN hX hS.1.1 12 (by omega) (by omega) (by show xK X i ≠ 15; omega)) ?_
    refine wp_t rfl ?_
    refine wp_be (q_wdN hX hS.1.1 22 (by omega) (by omega) (by show xK X i ≠ 18; omega)) ?_
    refine wp_t rfl ?_
    refine wp_be (q_wdN hX hS.1.1 23 (by omega) (by omega) (by show xK X i ≠ 16; omega)) ?_
    refine wp_t rfl ?_
    refine wp_be (q_twN hX hS.1.1 25 (by omega) (by omega) (by show xK X i ≠ 19; omega)) ?_
    refine wp_t rfl ?_
    refine wp_be (q_twN hX hS.1.1 26 (by omega) (by omega) (by show xK X i ≠ 21; omega)) ?_
    refine wp_t rfl ?_
    refine wp_be (q_twN hX hS.1.1 27 (by omega) (by omega) (by show xK X i ≠ 22; omega)) ?_
    refine wp_t rfl ?_
    refine wp_be (q_twY hX hS.1.1 hS.1.2.1 28 (by omega) (by omega) k23) ?_
    refine wp_f (by decide) ?_
    exact s_try hX hnf hm hE hB (hS.adv hX hi) hv hg hF hN hb
  rw [if_neg k23]
  by_cases k20 : xK X i = 20
  · rw [if_pos (show xK X i = 20 ∨ xK X i = 25 from Or.inl k20)]
    have hi := hS.1.lt hX (by omega)
    refine wp_be (q_twN hX hS.1.1 12 (by omega) (by omega) (by show xK X i ≠ 15; omega)) ?_
    refine wp_t rfl ?_
    refine wp_be (q_wdN hX hS.1.1 22 (by omega) (by omega) (by show xK X i ≠ 18; omega)) ?_
    refine wp_t rfl ?_
    refine wp_be (q_wdN hX hS.1.1 23 (by omega) (by omega) (by show xK X i ≠ 16; omega)) ?_
    refine wp_t rfl ?_
    refine wp_be (q_twN hX hS.1.1 25 (by omega) (by omega) (by show xK X i ≠ 19; omega)) ?_
    refine wp_t rfl ?_
    refine wp_be (q_twN hX hS.1.1 26 (by omega) (by omega) (by show xK X i ≠ 21; omega)) ?_
    refine wp_t rfl ?_
    refine wp_be (q_twN hX hS.1.1 27 (by omega) (by omega) (by show xK X i ≠ 22; omega)) ?_
    refine wp_t rfl ?_
    refine wp_be (q_twN hX hS.1.1 28 (by omega) (by omega) (by show xK X i ≠ 23; omega)) ?_
    refine wp_t rfl ?_
    refine wp_be (q_wdY hX hS.1.1 hS.1.2.1 30 (by omega) (by omega) k20) ?_
    refine wp_be (q_wdN hX hS.1.1 31 (by omega) (by omega) (by show xK X i ≠ 25; omega)) ?_
    refine wp_f (by decide) ?_
    refine wp_be (q_adv hX hS.1.1) ?_
    simp only [if_pos k20]
    exact s_word hX hnf hm hE hB (hS.adv hX hi) hv hg hF hN hb 24 (Or.inl ⟨rfl, rfl⟩)
  by_cases k25 : xK X i = 25
  · rw [if_pos (show xK X i = 20 ∨ xK X i = 25 from Or.inr k25)]
    have hi := hS.1.lt hX (by omega)
    refine wp_be (q_twN hX hS.1.1 12 (by omega) (by omega) (by show xK X i ≠ 15; omega)) ?_
    refine wp_t rfl ?_
    refine wp_be (q_wdN hX hS.1.1 22 (by omega) (by omega) (by show xK X i ≠ 18; omega)) ?_
    refine wp_t rfl ?_
    refine wp_be (q_wdN hX hS.1.1 23 (by omega) (by omega) (by show xK X i ≠ 16; omega)) ?_
    refine wp_t rfl ?_
    refine wp_be (q_twN hX hS.1.1 25 (by omega) (by omega) (by show xK X i ≠ 19; omega)) ?_
    refine wp_t rfl ?_
    refine wp_be (q_twN hX hS.1.1 26 (by omega) (by omega) (by show xK X i ≠ 21; omega)) ?_
    refine wp_t rfl ?_
    refine wp_be (q_twN hX hS.1.1 27 (by omega) (by omega) (by show xK X i ≠ 22; omega)) ?_
    refine wp_t rfl ?_
    refine wp_be (q_twN hX hS.1.1 28 (by omega) (by omega) (by show xK X i ≠ 23; omega)) ?_
    refine wp_t rfl ?_
    refine wp_be (q_wdN hX hS.1.1 30 (by omega) (by omega) (by show xK X i ≠ 20; omega)) ?_
    refine wp_be (q_wdY hX hS.1.1 hS.1.2.1 31 (by omega) (by omega) k25) ?_
    refine wp_t rfl ?_
    refine wp_f (by decide) ?_
    refine wp_be (q_adv hX hS.1.1) ?_
    simp only [if_neg k20]
    exact s_word hX hnf hm hE hB (hS.adv hX hi) hv hg hF hN hb 25 (Or.inr ⟨rfl, rfl, rfl⟩)
  rw [if_neg (show ¬ (xK X i = 20 ∨ xK X i = 25) by omega)]
  refine wp_be (q_twN hX hS.1.1 12 (by omega) (by omega) (by show xK X i ≠ 15; omega)) ?_
  refine wp_t rfl ?_
  refine wp_be (q_wdN hX hS.1.1 22 (by omega) (by omega) (by show xK X i ≠ 18; omega)) ?_
  refine wp_t rfl ?_
  refine wp_be (q_wdN hX hS.1.1 23 (by omega) (by omega) (by show xK X i ≠ 16; omega)) ?_
  refine wp_t rfl ?_
  refine wp_be (q_twN hX hS.1.1 25 (by omega) (by omega) (by show xK X i ≠ 19; omega)) ?_
  refine wp_t rfl ?_
  refine wp_be (q_twN hX hS.1.1 26 (by omega) (by omega) (by show xK X i ≠ 21; omega)) ?_
  refine wp_t rfl ?_
  refine wp_be (q_twN hX hS.1.1 27 (by omega) (by omega) (by show xK X i ≠ 22; omega)) ?_
  refine wp_t rfl ?_
  refine wp_be (q_twN hX hS.1.1 28 (by omega) (by omega) (by show xK X i ≠ 23; omega)) ?_
  refine wp_t rfl ?_
  refine wp_be (q_wdN hX hS.1.1 30 (by omega) (by omega) (by show xK X i ≠ 20; omega)) ?_
  refine wp_be (q_wdN hX hS.1.1 31 (by omega) (by omega) (by show xK X i ≠ 25; omega)) ?_
  refine wp_t rfl ?_
  refine wp_t rfl ?_
  exact s_plain hX hnf hm hE hB hS hv hg hb
end SY
