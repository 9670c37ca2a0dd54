/-! TERM, EXPR -/
section TX
variable {nf d : Nat} {T T0 T1 T2 : gSt} {X : Lx} {e B i m n i0 : Nat}
theorem bgT_n {k i e : Nat} {a b : Tr} : bgT (tD k i e a b) = if k = 2 ∨ k = 3 ∨ k = 4 ∨ k = 5 then bgT a else i := rfl
theorem b_tails {x1 x2 : Int32} {fl : Nat} (hfl : 0 < fl) (h : Zb X e T0 B T) (hx : inb x2 8200) : wp (rl_Model_term_6 (RR nf (d + 9)) nf fl T x1 x2) (fun r _ T' => inb r 8200 ∧ Zb X e T0 B T') := by
  obtain ⟨f, rfl⟩ : ∃ f, fl = f + 1 := ⟨fl - 1, by omega⟩
  rw [rl_Model_term_6]
  refine wp_be (q_bad1 h.bd) ?_
  refine wp_f (by decide) ?_
  exact wp_some ⟨hx, h⟩
theorem x_tails (hX : LX X) (hnf : 5000 ≤ nf) (hm : m ≤ 20) (hE : IHE X nf m (d + 9)) (hb : nN T0 ≤ 2 * i0) : ∀ (f fl : Nat) (t : Tr) (T : gSt) (i : Nat) (r : Int32), EO X T0 i0 t i r T → xn X < f + i → xn X + 1 < fl + i → wp (rl_Model_term_6 (RR nf (d + 9)) nf fl T (nI (20 - m)) r) (fun r' _ T' => EQ X T0 i0 (m + 1) (pTails (xK X) (pEx (xK X) m) f t i) r' T') := by
  have hx := hX.1
  have ep : nI (20 - m) + 1 = nI (21 - m) := by rw [nI_1]; congr 1; omega
  intro f
  induction f with
  | zero => intro fl t T i r h h1 h2; have := h.2.1.1.1; omega
  | succ f ih =>
    intro fl t T i r h h1 h2
    obtain ⟨a1, hG, hF, hR, a5, q, a6, a7, a8, a9⟩ := h
    have hi0 := hG.1.1
    have hb1 : nN T < 8200 := by omega
    have tt := hX.2.2.2.2.1 i hG.1.1
    obtain ⟨g, rfl⟩ : ∃ g, fl = g + 1 := ⟨fl - 1, by omega⟩
    subst a6
    have hnQ : inb (nI q) 8200 := nin (by omega) (by omega)
    have hnA : inb (nI (nN T)) 8200 := nin (by omega) (by omega)
    have cq : (nI q).toNatClampNeg = q := nc (by omega)
    have ca : (nI (nN T)).toNatClampNeg = nN T := nc (by omega)
    rw [rl_Model_term_6]
    refine wp_be (q_bad0 hG.2.1) ?_
    refine wp_t rfl ?_
    rw [pTails]
    -- a node over what there is: kind k, made at the next token
    have mk : ∀ k : Int32, i < xn X → ∃ S, S = ndS (advS T) (nN T) k (nI (xP X (bgT t))) ∧ RR nf (d + 9) 30 (advS T) [k, (advS T).1 51 q] [] = some (nI (nN T), 0, S) ∧ Gd X S (i + 1) ∧ Fe T0 S ∧ RepM X S t (nN T0) (nN T) (nI q) ∧ nN S = nN T + 1 ∧ ND S (nN T) k (nI (xP X (bgT t))) (-1) (-1) (-1) (-1) (S.2 56 (nN T)) (S.1 57 (nN T)) (S.1 58 (nN T)) 0 (S.1 61 (nN T)) := by
      intro k hi
      have hG1 := hG.adv hX hi
      have e1 : (advS T).1 51 q = nI (xP X (bgT t)) := (advS_i (by omega)).trans a9
      have hD : ND (ndS (advS T) (nN (advS T)) k (nI (xP X (bgT t)))) (nN (advS T)) k (nI (xP X (bgT t))) (-1) (-1) (-1) (-1) _ _ _ _ _ := ND.nd
      have hF1 : Fe T0 (ndS (advS T) (nN (advS T)) k (nI (xP X (bgT t)))) := hF.adv.nd (by rw [nN_adv]; omega)
      have hG2 := hG1.nd (a := nN (advS T)) (k := k) (p := nI (xP X (bgT t))) (by rw [nN_adv]; omega)
      have hq := q_node (nf := nf) (d := d + 8) hG1.2.2.1 (by rw [nN_adv]; omega) k ((advS T).1 51 q)
      have hR1 : RepM X (ndS (advS T) (nN (advS T)) k (nI (xP X (bgT t)))) t (nN T0) (nN T) (nI q) := RepM.ag (Ag.rf.adv.nd (Or.inr (by rw [nN_adv]; omega))) hR
      rw [nN_adv] at hD hF1 hG2 hq hR1
      rw [e1] at hq
      obtain ⟨c50, c51, c52, c53, c54, c55, c56, c57, c58, c59, c61⟩ := hD
      refine ⟨_, rfl, by rw [e1]; exact hq, hG2, hF1, hR1, nN_nd hb1, c50, c51, c52, c53, c54, c55, rfl, rfl, rfl, c59, rfl⟩
    -- . NAME, is NAME
    have named : ∀ (k : Int32), i < xn X → (xK X i = 49 ∧ k = 14 ∨ xK X i = 33 ∧ k = 17) → wp (gd (inb (nI q) 8200) <| bi (RR nf (d + 9) 30 (advS T) [k, (advS T).1 51 (nI q).toNatClampNeg] []) fun r30 l30 T30 => gd (inb r30 8200) <| stK (sI T30 57 r30.toNatClampNeg (T30.1 3 0)) fun T31 => bi (RR nf (d + 9) 21 T31 [] []) fun r32 l32 T32 => gd (inb r30 8200) <| stK (sJ T32 56 r30.toNatClampNeg l32) fun T33 => gd (inb r30 8200) <| stK (sI T33 52 r30.toNatClampNeg (nI q)) fun T34 => rl_Model_term_6 (RR nf (d + 9)) nf g T34 (nI (20 - m)) r30) (fun r' _ T' => EQ X T0 i0 (m + 1) (ek (xK X) 2 (i + 1) (pTails (xK X) (pEx (xK X) m) f (tD 3 i 0 t tZ) (i + 2))) r' T') := by
      intro k hi hk
      obtain ⟨S, -, b1, b2, b3, b4, b5, b6⟩ := mk k hi
      refine wp_gd hnQ ?_
      rw [cq]
      refine wp_be b1 ?_
      refine wp_gd hnA ?_
      refine wp_st ?_
      rw [ca, b2.pl]
      have hG1 := b2.w (g := 57) (j := nN T) (v := nI (xP X (i + 1))) (by omega)
      have hF1 := b3.w (g := 57) (j := nN T) (v := nI (xP X (i + 1))) (by omega) (by omega)
      have hR1 : RepM X (sI S 57 (nN T) (nI (xP X (i + 1)))) t (nN T0) (nN T) (nI q) := RepM.ag (Ag.rf.w (by omega) (Or.inr (Nat.le_refl _))) b4
      have hD1 := b6.w57 (v := nI (xP X (i + 1)))
      have hN1 : nN (sI S 57 (nN T) (nI (xP X (i + 1)))) = nN T + 1 := by rw [nN_w (by omega), b5]
      generalize sI S 57 (nN T) (nI (xP X (i + 1))) = S1 at *
      have hj1 := hG1.1.1
      refine x_name (d := d + 6) hX hG1 (fun k2 hj => ?_) (fun w S2 hz => ?_)
      · refine wp_gd hnA ?_
        refine wp_st ?_
        refine wp_gd hnA ?_
        refine wp_st ?_
        have hD2 := (hD1.adv.w56 (v := xN X (i + 1))).w52 (v := nI q)
        have hR2 : RepM X (sI (sJ (advS S1) 56 (nN T) (xN X (i + 1))) 52 (nN T) (nI q)) t (nN T0) (nN T) (nI q) := RepM.ag ((Ag.rf.adv.wj (Or.inr (Nat.le_refl _))).w (by omega) (Or.inr (Nat.le_refl _))) hR1
        have hN2 : nN (sI (sJ (advS S1) 56 (nN T) (xN X (i + 1))) 52 (nN T) (nI q)) = nN T + 1 := by rw [nN_w (by omega), nN_wj, nN_adv, hN1]
        refine ih g (tD 3 i 0 t tZ) _ (i + 2) (nI (nN T)) ⟨by omega, ((hG1.adv hX hj).wj (by omega)).w (by omega), (hF1.adv.wj (by omega)).w (by omega) (by omega), ?_, by rw [hN2]; omega, nN T, rfl, by omega, by rw [hN2]; omega, ?_⟩ (by omega) (by omega)
        · rw [hN2, RepM_n]
          unfold RpN
          rw [if_neg (by decide), if_neg (by decide), if_pos rfl]
          refine ⟨nN T, nI q, rfl, by omega, hR2, rfl, hD2.2.1, hD2.2.2.1, ?_⟩
          rcases hk with ⟨hk1, hk2⟩ | ⟨hk1, hk2⟩
          · rw [if_pos hk1]
            exact ⟨hD2.1.trans hk2, hD2.2.2.2.2.2.2.1, hD2.2.2.2.2.2.2.2.1⟩
          · rw [if_neg (by omega), if_neg (by omega)]
            exact ⟨hD2.1.trans hk2, hD2.2.2.2.2.2.2.1, hD2.2.2.2.2.2.2.2.1⟩
        · rw [bgT_n, if_pos (by omega)]
          exact hD2.2.1
      · refine wp_gd hnA ?_
        refine wp_st ?_
        refine wp_gd hnA ?_
        refine wp_st ?_
        refine wp_mono (b_tails (by omega) (((hz.fz hF1.1).wj (g := 56) (j := nN T) (v := w) (by decide)).w (g := 52) (j := nN T) (v := nI q) (by omega)) hnA) ?_
        intro r' l' S3 h3
        exact ⟨by omega, hj1, h3.1, h3.2.le (by omega)⟩
    by_cases k49 : xK X i = 49
    · have hi := hG.lt hX (by omega)
      rw [if_pos (Or.inl k49)]
      refine wp_be (q_tkY hX hG.1 hG.2.1 49 rfl k49 (by omega)) ?_
      refine wp_f (by decide) ?_
      exact named 14 hi (Or.inl ⟨k49, rfl⟩)
    refine wp_be (q_tkN hX hG.1 hG.2.1 49 rfl k49 (by omega) (by omega)) ?_
    refine wp_t rfl ?_
    by_cases k44 : xK X i = 44
    · have hi := hG.lt hX (by omega)
      rw [if_neg (by omega), if_neg (by omega), if_pos k44]
      refine wp_be (q_tkY hX hG.1 hG.2.1 44 rfl k44 (by omega)) ?_
      refine wp_f (by decide) ?_
      obtain ⟨S, -, b1, b2, b3, b4, b5, b6⟩ := mk 15 hi
      refine wp_gd hnQ ?_
      rw [cq]
      refine wp_be b1 ?_
      rw [ep]
      refine x_sub (hE S (i + 1) b2 (by omega)) (fun a j r l S2 h2 => ?_) (fun ej r l S2 h2 => ?_)
      · obtain ⟨c1, c2, c3, c4, c5, q2, c6, c7, c8, c9⟩ := h2
        rw [b5] at c4 c5 c7
        have hj2 := c2.1.1
        refine wp_gd hnA ?_
        refine wp_st ?_
        rw [ca]
        have hG3 := c2.w (g := 53) (j := nN T) (v := r) (by omega)
        have hF3 := (b3.tr c3).w (g := 53) (j := nN T) (v := r) (by omega) (by omega)
        have hD3 := (b6.fe c3 (by omega)).w53 (v := r)
        have hR3 : RepM X (sI S2 53 (nN T) r) t (nN T0) (nN T) (nI q) := RepM.ag ((c3.2.1.sub (by omega) (by omega)).w (by omega) (Or.inr (Nat.le_refl _))) b4
        have hM3 : RepM X (sI S2 53 (nN T) r) a (nN T + 1) (nN S2) r := RepM.ag (Ag.rf.w (by omega) (Or.inl (by omega))) c4
        have hN3 : nN (sI S2 53 (nN T) r) = nN S2 := by rw [nN_w (by omega)]
        generalize sI S2 53 (nN T) r = S3 at *
        refine x_need (d := d + 5) hX 45 hG3 rfl (by omega) (by omega) (fun k45 hj => ?_) (fun S4 hz => ?_)
        · refine wp_gd hnA ?_
          refine wp_st ?_
          have hD4 := hD3.adv.w52 (v := nI q)
          have hN4 : nN (sI (advS S3) 52 (nN T) (nI q)) = nN S2 := by rw [nN_w (by omega), nN_adv, hN3]
          refine ih g (tD 4 i 0 t a) _ (j + 1) (nI (nN T)) ⟨by omega, (hG3.adv hX hj).w (by omega), hF3.adv.w (by omega) (by omega), ?_, by rw [hN4]; omega, nN T, rfl, by omega, by rw [hN4]; omega, ?_⟩ (by omega) (by omega)
          · rw [hN4, RepM_n]
            unfold RpN
            rw [if_neg (by decide), if_neg (by decide), if_neg (by decide), if_pos rfl]
            exact ⟨nN T, nI q, r, rfl, by omega, by omega, RepM.ag (Ag.rf.adv.w (by omega) (Or.inr (Nat.le_refl _))) hR3, RepM.ag (Ag.rf.adv.w (by omega) (Or.inl (by omega))) hM3, hD4.2.1, hD4.2.2.1, hD4.2.2.2.1, hD4.1⟩
          · rw [bgT_n, if_pos (by omega)]
            exact hD4.2.1
        · refine wp_gd hnA ?_
          refine wp_st ?_
          refine wp_mono (b_tails (by omega) ((hz.fz hF3.1).w (g := 52) (j := nN T) (v := nI q) (by omega)) hnA) ?_
          intro r' l' S5 h5
          exact ⟨by omega, hj2, h5.1, h5.2.le (by omega)⟩
      · obtain ⟨c1, c2, c3, c4⟩ := h2
        refine wp_gd hnA ?_
        refine wp_st ?_
        have h10 := (c4.fz b3.1).w (g := 53) (j := (nI (nN T)).toNatClampNeg) (v := r) (by omega)
        refine wp_be (q_nd1 h10.bd _) ?_
        refine wp_gd hnA ?_
        refine wp_st ?_
        refine wp_mono (b_tails (by omega) (h10.w (g := 52) (j := (nI (nN T)).toNatClampNeg) (v := nI q) (by omega)) hnA) ?_
        intro r' l' S5 h5
        exact ⟨by omega, c2, h5.1, h5.2.le (by omega)⟩
    refine wp_be (q_tkN hX hG.1 hG.2.1 44 rfl k44 (by omega) (by omega)) ?_
    refine wp_t rfl ?_
    by_cases k61 : xK X i = 61
    · have hi := hG.lt hX (by omega)
      rw [if_neg (by omega), if_pos k61]
      refine wp_be (q_tkY hX hG.1 hG.2.1 61 rfl k61 (by omega)) ?_
      refine wp_f (by decide) ?_
      obtain ⟨S, -, b1, b2, b3, b4, b5, b6⟩ := mk 16 hi
      refine wp_gd hnQ ?_
      rw [cq]
      refine wp_be b1 ?_
      refine wp_gd hnA ?_
      refine wp_st ?_
      rw [ca]
      have hD2 := b6.w52 (v := nI q)
      have hN2 : nN (sI S 52 (nN T) (nI q)) = nN T + 1 := by rw [nN_w (by omega), b5]
      refine ih g (tD 3 i 0 t tZ) _ (i + 1) (nI (nN T)) ⟨by omega, b2.w (by omega), b3.w (by omega) (by omega), ?_, by rw [hN2]; omega, nN T, rfl, by omega, by rw [hN2]; omega, ?_⟩ (by omega) (by omega)
      · rw [hN2, RepM_n]
        unfold RpN
        rw [if_neg (by decide), if_neg (by decide), if_pos rfl]
        refine ⟨nN T, nI q, rfl, by omega, RepM.ag (Ag.rf.w (by omega) (Or.inr (Nat.le_refl _))) b4, rfl, hD2.2.1, hD2.2.2.1, ?_⟩
        rw [if_neg k49, if_pos k61]
        exact hD2.1
      · rw [bgT_n, if_pos (by omega)]
        exact hD2.2.1
    refine wp_be (q_tkN hX hG.1 hG.2.1 61 rfl k61 (by omega) (by omega)) ?_
    refine wp_t rfl ?_
    by_cases k33 : xK X i = 33
    · have hi := hG.lt hX (by omega)
      rw [if_pos (Or.inr k33)]
      refine wp_be (q_twY hX hG.1 hG.2.1 21 (by omega) (by omega) k33) ?_
      refine wp_f (by decide) ?_
      exact named 17 hi (Or.inr ⟨k33, rfl⟩)
    refine wp_be (q_twN hX hG.1 21 (by omega) (by omega) (by show xK X i ≠ 33; omega)) ?_
    refine wp_t rfl ?_
    rw [if_neg (by omega), if_neg k61, if_neg k44]
    exact wp_some ⟨a1, hG, hF, hR, a5, q, rfl, a7, a8, a9⟩
theorem x_term (hX : LX X) (hnf : 5000 ≤ nf) (hm : m ≤ 20) (hE : ∀ D, d + 5 ≤ D → IHE X nf m D) (hT : ∀ D, d + 5 ≤ D → 0 < m → IHT X nf m D) (hG : Gd X T i) (hb : nN T ≤ 2 * i) : wp (RR nf (d + 10) 36 T [nI (20 - m)] []) (fun r _ T' => EQ X T i (m + 1) (pTerm (xK X) (pEx (xK X) m) i) r T') := by
  have hx := hX.1
  rw [e_Model_term]
  unfold rb_Model_term pTerm
  refine wp_bi (x_prim hX hnf hm hE hT hG hb) ?_
  intro r l T1 h
  generalize pPrim (xK X) (pEx (xK X) m) i = res at h ⊢
  cases res with
  | error e =>
    refine wp_mono (b_tails (by omega) h.2.2.2 h.2.2.1) ?_
    intro r' l' T2 h2
    exact ⟨h.1, h.2.1, h2.1, h2.2⟩
  | ok tj =>
    obtain ⟨t, j⟩ := tj
    exact x_tails hX hnf hm (hE (d + 9) (by omega)) hb 4001 nf t T1 j r h (by omega) (by omega)
theorem b_ops {x1 x2 : Int32} {fl : Nat} (hfl : 0 < fl) (h : Zb X e T0 B T) (hx : inb x2 8200) : wp (rl_Model_expression_16 (RR nf (d + 10)) nf fl T x1 x2) (fun r _ T' => inb r 8200 ∧ Zb X e T0 B T') := by
  obtain ⟨f, rfl⟩ : ∃ f, fl = f + 1 := ⟨fl - 1, by omega⟩
  rw [rl_Model_expression_16]
  refine wp_be (q_op1 h.bd) ?_
  refine wp_t (by decide) ?_
  exact wp_some ⟨hx, h⟩
theorem chK_pos : ∀ k, k < 63 → 40 ≤ k → ¬ chK k < 0 := by decide
theorem x_ops (hX : LX X) (hnf : 5000 ≤ nf) (hm : m ≤ 20) (hE : ∀ D, d + 5 ≤ D → IHE X nf m D) (hT : ∀ D, d + 5 ≤ D → 0 < m → IHT X nf m D) (hb : nN T0 ≤ 2 * i0) : ∀ (f fl : Nat) (t : Tr) (T : gSt) (i : Nat) (r : Int32), EO X T0 i0 t i r T → xn X < f + i → xn X + 1 < fl + i → wp (rl_Model_expression_16 (RR nf (d + 10)) nf fl T (nI (20 - m)) r) (fun r' _ T' => EQ X T0 i0 (m + 1) (pOps (xK X) (pEx (xK X) m) f t i) r' T') := by
  have hx := hX.1
  intro f
  induction f with
  | zero => intro fl t T i r h h1 h2; have := h.2.1.1.1; omega
  | succ f ih =>
    intro fl t T i r h h1 h2
    obtain ⟨a1, hG, hF, hR, a5, q, a6, a7, a8, a9⟩ := h
    have hi0 := hG.1.1
    have hb1 : nN T < 8200 := by omega
    have tt := hX.2.2.2.2.1 i hG.1.1
    obtain ⟨g, rfl⟩ : ∃ g, fl = g + 1 := ⟨fl - 1, by omega⟩
    subst a6
    have hnQ : inb (nI q) 8200 := nin (by omega) (by omega)
    have hnA : inb (nI (nN T)) 8200 := nin (by omega) (by omega)
    have cq : (nI q).toNatClampNeg = q := nc (by omega)
    have ca : (nI (nN T)).toNatClampNeg = nN T := nc (by omega)
    rw [rl_Model_expression_16, pOps]
    by_cases ho : isOp (xK X i)
    · have hi := hG.lt hX (by omega)
      rw [if_pos ho]
      refine wp_be (q_opY hX hG.1 hG.2.1 ho) ?_
      refine wp_f (chK_pos _ (okK_lt tt.1) (by omega)) ?_
      refine wp_be (q_opY hX hG.1 hG.2.1 ho) ?_
      refine wp_be (q_adv hX hG.1) ?_
      refine wp_gd hnQ ?_
      rw [cq, show (advS T).1 51 q = nI (xP X (bgT t)) from (advS_i (by omega)).trans a9]
      have hG1 := hG.adv hX hi
      refine wp_be (q_node hG1.2.2.1 (by rw [nN_adv]; omega) _ _) ?_
      have hD1 : ND (ndS (advS T) (nN (advS T)) 13 (nI (xP X (bgT t)))) (nN (advS T)) 13 (nI (xP X (bgT t))) (-1) (-1) (-1) (-1) ((advS T).2 56 (nN (advS T))) ((advS T).1 57 (nN (advS T))) ((advS T).1 58 (nN (advS T))) 0 ((advS T).1 61 (nN (advS T))) := ND.nd
      have hF1 : Fe T0 (ndS (advS T) (nN (advS T)) 13 (nI (xP X (bgT t)))) := hF.adv.nd (by rw [nN_adv]; omega)
      have hG2 := hG1.nd (a := nN (advS T)) (k := 13) (p := nI (xP X (bgT t))) (by rw [nN_adv]; omega)
      have hR1 : RepM X (ndS (advS T) (nN (advS T)) 13 (nI (xP X (bgT t)))) t (nN T0) (nN T) (nI q) := RepM.ag (Ag.rf.adv.nd (Or.inr (by rw [nN_adv]; omega))) hR
      rw [nN_adv] at hD1 hF1 hG2 hR1 ⊢
      have hN1 : nN (ndS (advS T) (nN T) 13 (nI (xP X (bgT t)))) = nN T + 1 := nN_nd hb1
      generalize ndS (advS T) (nN T) 13 (nI (xP X (bgT t))) = S1 at *
      refine wp_gd hnA ?_
      refine wp_st ?_
      refine wp_gd hnA ?_
      refine wp_st ?_
      rw [ca]
      have hD2 := (hD1.w54 (v := chK (xK X i))).w52 (v := nI q)
      have hF2 := (hF1.w (g := 54) (j := nN T) (v := chK (xK X i)) (by omega) (by omega)).w (g := 52) (j := nN T) (v := nI q) (by omega) (by omega)
      have hG3 := (hG2.w (g := 54) (j := nN T) (v := chK (xK X i)) (by omega)).w (g := 52) (j := nN T) (v := nI q) (by omega)
      have hR2 : RepM X (sI (sI S1 54 (nN T) (chK (xK X i))) 52 (nN T) (nI q)) t (nN T0) (nN T) (nI q) := RepM.ag ((Ag.rf.w (by omega) (Or.inr (Nat.le_refl _))).w (by omega) (Or.inr (Nat.le_refl _))) hR1
      have hN2 : nN (sI (sI S1 54 (nN T) (chK (xK X i))) 52 (nN T) (nI q)) = nN T + 1 := by rw [nN_w (by omega), nN_w (by omega), hN1]
      generalize sI (sI S1 54 (nN T) (chK (xK X i))) 52 (nN T) (nI q) = S2 at *
      refine x_sub (x_term (d := d) hX hnf hm hE hT hG3 (by omega)) (fun a j r l S3 h3 => ?_) (fun ej r l S3 h3 => ?_)
      · obtain ⟨c1, c2, c3, c4, c5, q2, c6, c7, c8, c9⟩ := h3
        rw [hN2] at c4 c5 c7
        refine wp_gd hnA ?_
        refine wp_st ?_
        have hD3 := (hD2.fe c3 (by omega)).w53 (v := r)
        have hN3 : nN (sI S3 53 (nN T) r) = nN S3 := by rw [nN_w (by omega)]
        refine ih g (tD 5 i (xK X i) t a) _ j (nI (nN T)) ⟨by omega, c2.w (by omega), (hF2.tr c3).w (by omega) (by omega), ?_, by rw [hN3]; omega, nN T, rfl, by omega, by rw [hN3]; omega, ?_⟩ (by omega) (by omega)
        · rw [hN3, RepM_n]
          unfold RpN
          rw [if_neg (by decide), if_neg (by decide), if_neg (by decide), if_neg (by decide), if_pos rfl]
          exact ⟨nN T, nI q, r, rfl, by omega, by omega, RepM.ag ((c3.2.1.sub (by omega) (by omega)).w (by omega) (Or.inr (Nat.le_refl _))) hR2, RepM.ag (Ag.rf.w (by omega) (Or.inl (by omega))) c4, hD3.2.1, hD3.2.2.1, hD3.2.2.2.1, hD3.1, hD3.2.2.2.2.1⟩
        · rw [bgT_n, if_pos (by omega)]
          exact hD3.2.1
      · obtain ⟨c1, c2, c3, c4⟩ := h3
        refine wp_gd hnA ?_
        refine wp_st ?_
        refine wp_mono (b_ops (by omega) ((c4.fz hF2.1).w (g := 53) (j := nN T) (v := r) (by omega)) hnA) ?_
        intro r' l' S5 h5
        exact ⟨by omega, c2, h5.1, h5.2.le (by omega)⟩
    · rw [if_neg ho]
      refine wp_be (q_opN hX hG.1 hG.2.1 ho) ?_
      refine wp_t (by decide) ?_
      exact wp_some ⟨a1, hG, hF, hR, a5, q, rfl, a7, a8, a9⟩
theorem x_expr (hX : LX X) (hnf : 5000 ≤ nf) (hm : m ≤ 20) (hE : ∀ D, d + 5 ≤ D → IHE X nf m D) (hT : ∀ D, d + 5 ≤ D → 0 < m → IHT X nf m D) (hG : Gd X T i) (hb : nN T ≤ 2 * i) : wp (RR nf (d + 11) 35 T [nI (20 - m)] []) (fun r _ T' => EQ X T i (m + 1) (pExpr (xK X) (pEx (xK X) m) i) r T') := by
  have hx := hX.1
  rw [e_Model_expression]
  unfold rb_Model_expression pExpr
  refine wp_t ((nI_leI (a := 20 - m) (b := 20) (by omega) (by omega)).mpr (by omega)) ?_
  refine wp_bi (x_term hX hnf hm hE hT hG hb) ?_
  intro r l T1 h
  generalize pTerm (xK X) (pEx (xK X) m) i = res at h ⊢
  cases res with
  | error e =>
    refine wp_mono (b_ops (by omega) h.2.2.2 h.2.2.1) ?_
    intro r' l' T2 h2
    exact ⟨h.1, h.2.1, h2.1, h2.2⟩
  | ok tj =>
    obtain ⟨t, j⟩ := tj
    exact x_ops hX hnf hm hE hT hb 4001 nf t T1 j r h (by omega) (by omega)
/-- the reference reads EXPRS as the grammar says -/
theorem x_all (hX : LX X) (hnf : 5000 ≤ nf) : ∀ m, m ≤ 21 → (∀ D, 8 * m + 8 ≤ D → IHE X nf m D) ∧ (∀ D, 8 * m + 8 ≤ D → 0 < m → IHT X nf m D) := by
  intro m
  induction m with
  | zero =>
    intro _
    refine ⟨fun D hD T i hG hb => ?_, fun D hD h => by omega⟩
    have hi := hG.1.1
    have hx := hX.1
    obtain ⟨d, rfl⟩ : ∃ d, D = d + 8 := ⟨D - 8, by omega⟩
    rw [e_Model_expression]
    unfold rb_Model_expression
    refine wp_f (by decide) ?_
    refine wp_be (q_wrong0 hG.2.1) ?_
    refine wp_bi (b_term (d := d + 4) hnf (hG.fail Fz.rf (Nat.le_refl _)) (by omega) _) ?_
    intro r l T1 h1
    obtain ⟨n, rfl⟩ := nfS hnf
    rw [rl_Model_expression_16]
    refine wp_be (q_op1 h1.2.bd) ?_
    refine wp_t (by decide) ?_
    exact wp_some ⟨Nat.le_refl _, hi, h1.1, h1.2.le (by omega)⟩
  | succ m ih =>
    intro hm
    obtain ⟨ihE, ihT⟩ := ih (by omega)
    have e1 : 21 - (m + 1) = 20 - m := by omega
    refine ⟨fun D hD T i hG hb => ?_, fun D hD _ T i hG hb => ?_⟩
    · obtain ⟨d, rfl⟩ : ∃ d, D = d + 11 := ⟨D - 11, by omega⟩
      rw [e1]
      exact x_expr hX hnf (by omega) (fun D' h' => ihE D' (by omega)) (fun D' h' q => ihT D' (by omega) q) hG hb
    · obtain ⟨d, rfl⟩ : ∃ d, D = d + 10 := ⟨D - 10, by omega⟩
      rw [e1]
      exact x_term hX hnf (by omega) (fun D' h' => ihE D' (by omega)) (fun D' h' q => ihT D' (by omega) q) hG hb
end TX
