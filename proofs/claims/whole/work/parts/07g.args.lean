/-! ARGUMENTS -/
abbrev FA (n : Nat) (last : Int32) (T T' : gSt) : Prop := Fz T T' ∧ (∀ g j, 50 ≤ g → g ≤ 61 → g ≠ 60 → j < nN T → ¬ (g = 53 ∧ j = n) → ¬ (g = 52 ∧ j = n ∧ last = -1) → ¬ (g = 55 ∧ nI j = last) → T'.1 g j = T.1 g j) ∧ (∀ j, j < nN T → T'.2 56 j = T.2 56 j) ∧ nU T ≤ nU T' ∧ (∀ j, j < nU T → T'.2 46 j = T.2 46 j ∧ T'.1 47 j = T.1 47 j) ∧ nN T ≤ nN T' ∧ (∀ g, (37 ≤ g ∧ g ≤ 44) ∨ g = 62 ∨ g = 63 → T'.1 g = T.1 g) ∧ T'.2 41 = T.2 41
section AX
variable {nf d : Nat} {T T0 T1 T2 : gSt} {X : Lx} {e B i m n : Nat}
theorem neg1_lt {j : Nat} (h : j < 100000) : nI j ≠ -1 := by
  intro q
  have := congrArg Int32.toInt q
  rw [nI_toInt (by omega)] at this
  have e2 : (-1 : Int32).toInt = -1 := by decide
  omega
theorem nI_inj {a b : Nat} (ha : a < 100000) (hb : b < 100000) (h : nI a = nI b) : a = b := (nI_eq (by omega) (by omega)).mp h
theorem nI0le {a : Nat} (ha : a < 100000) : (0 : Int32) ≤ nI a := by
  rw [i_le, nI_toInt (by omega)]
  have e2 : (0 : Int32).toInt = 0 := by decide
  omega
theorem FA.fe {last : Int32} {S : gSt} (hS : Fe S T) (h : FA n last T T1) (hn : nN S ≤ n) (hl : last = -1 ∨ ∃ L, last = nI L ∧ nN S ≤ L ∧ L < 8200) (hb : nN T < 8200) : Fe S T1 := by
  refine ⟨hS.1.tr h.1, ⟨fun g j a b c d e => ?_, fun j d e => ?_, Nat.le_trans hS.2.1.2.2.1 h.2.2.2.1, fun j hj => ?_⟩, Nat.le_trans hS.2.2.1 h.2.2.2.2.2.1, fun g q => (h.2.2.2.2.2.2.1 g q).trans (hS.2.2.2.1 g q), h.2.2.2.2.2.2.2.trans hS.2.2.2.2⟩
  · refine (h.2.1 g j a b c (Nat.lt_of_lt_of_le e hS.2.2.1) (by omega) (by omega) ?_).trans (hS.2.1.1 g j a b c d e)
    intro q
    have hlt := hS.2.2.1
    rcases hl with hl | ⟨L, hl, h1, h2⟩
    · exact neg1_lt (j := j) (by omega) (q.2.trans hl)
    · have := nI_inj (a := j) (b := L) (by omega) (by omega) (q.2.trans hl)
      omega
  · exact (h.2.2.1 j (Nat.lt_of_lt_of_le e hS.2.2.1)).trans (hS.2.1.2.1 j d e)
  · have q := h.2.2.2.2.1 j (Nat.lt_of_lt_of_le hj hS.2.1.2.2.1)
    have q2 := hS.2.1.2.2.2 j hj
    exact ⟨q.1.trans q2.1, q.2.trans q2.2⟩
theorem b_hold {fl : Nat} (hfl : 0 < fl) (h : Zb X e T0 B T2) (hB : B < 8200) {r x1 x2 x3 x4 x5 : Int32} (hr : inb r 8200) (hx : inb x1 8200) (hl : ¬ (0 : Int32) ≤ x5 ∨ inb x5 8200) : wp (gd (inb r 8200) <| bi (RR nf (d + 5) 30 T2 [(30 : Int32), T2.1 51 r.toNatClampNeg] []) fun r17 l17 T17 => gd (inb r17 8200) <| stK (sI T17 52 r17.toNatClampNeg r) fun T18 => if (0 : Int32) ≤ x5 then (gd (inb x5 8200) <| stK (sI T18 55 x5.toNatClampNeg r17) fun T20 => vK (x4 + (1 : Int32)) fun z21 => rl_Model_arguments_6 (RR nf (d + 5)) nf fl T20 x1 x2 x3 z21 r17) else (gd (inb x1 8200) <| stK (sI T18 52 x1.toNatClampNeg r17) fun T22 => vK (x4 + (1 : Int32)) fun z23 => rl_Model_arguments_6 (RR nf (d + 5)) nf fl T22 x1 x2 x3 z23 r17)) (fun _ _ T' => Zb X e T0 (B + 1) T') := by
  have hb := h.2.2.2.2
  obtain ⟨f', rfl⟩ : ∃ f', fl = f' + 1 := ⟨fl - 1, by omega⟩
  have fin : ∀ T3 q z, Zb X e T0 (B + 1) T3 → wp (rl_Model_arguments_6 (RR nf (d + 5)) nf (f' + 1) T3 x1 x2 x3 q z) (fun _ _ T' => Zb X e T0 (B + 1) T') := by
    intro T3 q z h3
    rw [rl_Model_arguments_6]
    refine wp_be (q_bad1 h3.bd) ?_
    refine wp_f (by decide) ?_
    refine wp_be (q_nd1 h3.bd _) ?_
    refine wp_gd hx ?_
    refine wp_st ?_
    exact wp_some (h3.w (by omega))
  refine wp_gd hr ?_
  refine wp_be (q_node h.2.2.2.1 (by omega) _ _) ?_
  have hz := h.nd (k := 30) (p := T2.1 51 r.toNatClampNeg) hB
  refine wp_gd (nin (by omega) (by omega)) ?_
  refine wp_st ?_
  refine wp_if (fun c => ?_) (fun c => ?_)
  · refine wp_gd (hl.resolve_left (fun q => q c)) ?_
    refine wp_st ?_
    refine wp_v ?_
    exact fin _ _ _ ((hz.w (by omega)).w (by omega))
  · refine wp_gd hx ?_
    refine wp_st ?_
    refine wp_v ?_
    exact fin _ _ _ ((hz.w (by omega)).w (by omega))
theorem b_hold2 (hnf : 5000 ≤ nf) {fl : Nat} (hfl : 0 < fl) (h : Zb X e T0 B T2) (hB : B + 1 < 8200) {x1 x2 x3 x4 x5 : Int32} (hx : inb x1 8200) (hl : ¬ (0 : Int32) ≤ x5 ∨ inb x5 8200) : wp (rj_Model_arguments_43 (RR nf (d + 5)) nf (rl_Model_arguments_6 (RR nf (d + 5)) nf fl) T2 x1 x2 x3 x4 x5) (fun _ _ T' => Zb X e T0 (B + 2) T') := by
  unfold rj_Model_arguments_43
  refine wp_bi (b_expr (d := d + 1) hnf h (by omega) _) ?_
  intro r l T3 h3
  exact b_hold hfl h3.2 (by omega) h3.1 hx hl
def AQ (X : Lx) (T : gSt) (n : Nat) (last : Int32) (q i m : Nat) (res : ER) (T' : gSt) : Prop := match res with
  | .ok (r, j) => i < j ∧ Gd X T' j ∧ FA n last T T' ∧ T'.1 53 n = nI (q + lenT r) ∧ nN T' ≤ nN T + 2 * (j - i) ∧ ∃ z, RepM X T' r (nN T) (nN T') z ∧ (last = -1 → T.1 52 n = -1 → T'.1 52 n = z) ∧ ∀ L, last = nI L → L < nN T → T.1 55 L = -1 → T'.1 55 L = z
  | .error e => i ≤ e ∧ e ≤ xn X ∧ Zb X e T (2 * e + 4 * m + 6) T'
theorem x_args_l (hX : LX X) (hnf : 5000 ≤ nf) (hm : m ≤ 20) (hE : ∀ T i, Gd X T i → nN T ≤ 2 * i → wp (RR nf (d + 5) 35 T [nI (21 - m)] []) (fun r _ T' => EQ X T i m (pEx (xK X) m 0 i) r T')) (kc : Nat) (c : Int32) (hc : chK kc = c) (hkc : kc = 43 ∨ kc = 41) : ∀ (f fl q : Nat) (T : gSt) (i n : Nat) (last : Int32), Gd X T i → nN T ≤ 2 * i → n < nN T → q ≤ 8 → xn X < f + i → xn X + 1 < fl + i → (q = 0 ∧ last = -1 ∨ 0 < q ∧ ∃ L, last = nI L ∧ n < L ∧ L < nN T) → wp (rl_Model_arguments_6 (RR nf (d + 5)) nf fl T (nI n) (nI (20 - m)) c (nI q) last) (fun _ _ T' => AQ X T n last q i m (pArgs (xK X) (pEx (xK X) m 0) kc f q i) T') := by
  have hx1 := hX.1
  have ep : nI (20 - m) + 1 = nI (21 - m) := by rw [nI_1]; congr 1; omega
  intro f
  induction f with
  | zero => intro fl q T i n last hG h1 h2 h3 h4 h5 h6; have := hG.1.1; omega
  | succ f ih =>
    intro fl q T i n last hG h1 h2 h3 h4 h5 h6
    have hi := hG.1.1
    obtain ⟨g, rfl⟩ : ∃ g, fl = g + 1 := ⟨fl - 1, by omega⟩
    have hn : inb (nI n) 8200 := nin (by omega) (by omega)
    have cn : (nI n).toNatClampNeg = n := nc (by omega)
    rw [rl_Model_arguments_6]
    refine wp_be (q_bad0 hG.2.1) ?_
    refine wp_t rfl ?_
    by_cases hk : xK X i = kc
    · have hj := hG.lt hX (by omega)
      refine wp_be (q_sgY hX hG.1 hG.2.1 kc hc hk (by omega)) ?_
      refine wp_f (by decide) ?_
      refine wp_be (q_ndY hX hG.1 hG.2.1 kc hc hk (by omega)) ?_
      refine wp_gd hn ?_
      refine wp_st ?_
      refine wp_some ?_
      rw [cn]
      rw [pArgs, if_pos hk]
      have e1 : nN (sI (advS T) 53 n (nI q)) = nN T := by rw [nN_w (by omega), nN_adv]
      have e2 : nU (sI (advS T) 53 n (nI q)) = nU T := by rw [nU_w (by omega), nU_adv]
      refine ⟨by omega, (hG.adv hX hj).w (by omega), ⟨Fz.rf.adv.w (by omega), fun g' j' a b c' d' x1 x2 x3 => ?_, fun j' d' => ?_, by rw [e2]; exact Nat.le_refl _, fun j' d' => ?_, by rw [e1]; exact Nat.le_refl _, fun g' q' => ?_, ?_⟩, ?_, by rw [e1]; omega, -1, ?_, ?_, ?_⟩
      · rw [rdI, if_neg (by omega), advS_i (by omega)]
      · rw [rdIJ, advS_j (by omega)]
      · rw [rdIJ, sI_ne (by omega), advS_j (by omega), advS_i (by omega)]; exact ⟨rfl, rfl⟩
      · rw [sI_ne (by omega), advS_if (by omega)]
      · exact advS_jf (by omega)
      · rw [sI_v]; rfl
      · rw [e1]; exact ⟨rfl, rfl⟩
      · intro _ h; rw [rdI, if_neg (by omega), advS_i (by omega)]; exact h
      · intro L _ _ h; rw [rdI, if_neg (by omega), advS_i (by omega)]; exact h
    · refine wp_be (q_sgN hX hG.1 hG.2.1 kc hc hk (by omega) (by omega)) ?_
      refine wp_t rfl ?_
      -- the EXPR and what follows it
      have main : ∀ T1 i1, Gd X T1 i1 → i ≤ i1 → i1 ≤ i + 1 → nN T1 = nN T → FA n last T T1 → T1.1 52 n = T.1 52 n → (∀ L, T1.1 55 L = T.1 55 L) → (∀ h t : Nat, True) → q < 8 → wp (rj_Model_arguments_43 (RR nf (d + 5)) nf (rl_Model_arguments_6 (RR nf (d + 5)) nf g) T1 (nI n) (nI (20 - m)) c (nI q) last) (fun _ _ T' => AQ X T n last q i m (eb (pEx (xK X) m 0 i1) fun a j => eb (pArgs (xK X) (pEx (xK X) m 0) kc f (q + 1) j) fun r j2 => .ok (tN 10 0 0 a r, j2)) T') := by
        intro T1 i1 hG1 hi1 hi2 hN1 hF1 h52 h55 _ hq8
        unfold rj_Model_arguments_43
        rw [ep]
        refine wp_bi (hE T1 i1 hG1 (by omega)) ?_
        intro r l T2 hr
        cases hres : pEx (xK X) m 0 i1 with
        | error e =>
          rw [hres] at hr
          obtain ⟨r1, r2, r3, r4⟩ := hr
          refine wp_mono (b_hold (by omega) r4 (by omega) r3 hn ?_) ?_
          · rcases h6 with h6 | ⟨_, L, h6, h7, h8⟩
            · rw [h6.2]; exact Or.inl (by decide)
            · rw [h6]; exact Or.inr (nin (by omega) (by omega))
          · intro _ _ T3 h3
            exact ⟨by omega, r2, (h3.fz hF1.1).le (by omega)⟩
        | ok tj =>
          obtain ⟨a, j⟩ := tj
          rw [hres] at hr
          obtain ⟨r1, r2, r3, r4, r5, qn, r6, r7, r8, r9⟩ := hr
          have hj := r2.1.1
          have hb2 : nN T2 < 8200 := by omega
          subst r6
          refine wp_gd (nin (by omega) (by omega)) ?_
          rw [nc (m := qn) (by omega)]
          refine wp_be (q_node r2.2.2.1 hb2 _ _) ?_
          refine wp_gd (nin (by omega) (by omega)) ?_
          refine wp_st ?_
          rw [nc (m := nN T2) (by omega), r9]
          have hG3 := (r2.nd (k := 30) (p := nI (xP X (bgT a))) hb2).w (g := 52) (j := nN T2) (v := nI qn) (by omega)
          have hN3 : nN (sI (ndS T2 (nN T2) 30 (nI (xP X (bgT a)))) 52 (nN T2) (nI qn)) = nN T2 + 1 := by rw [nN_w (by omega), nN_nd hb2]
          have hU3 : nU (sI (ndS T2 (nN T2) 30 (nI (xP X (bgT a)))) 52 (nN T2) (nI qn)) = nU T2 := by rw [nU_w (by omega), nU_nd]
          have hnd : ND (sI (ndS T2 (nN T2) 30 (nI (xP X (bgT a)))) 52 (nN T2) (nI qn)) (nN T2) 30 (nI (xP X (bgT a))) (nI qn) (-1) (-1) (-1) (T2.2 56 (nN T2)) (T2.1 57 (nN T2)) (T2.1 58 (nN T2)) 0 (T2.1 61 (nN T2)) := ND.nd.w52
          generalize hT3 : sI (ndS T2 (nN T2) 30 (nI (xP X (bgT a)))) 52 (nN T2) (nI qn) = T3 at *
          -- all but the new nodes is as it was in T2
          have f3 : ∀ g' j', g' ≠ 49 → j' ≠ nN T2 → T3.1 g' j' = T2.1 g' j' := by
            intro g' j' c1 c2
            rw [← hT3, rdI, if_neg (by omega), ndS_o c2 c1]
          have f3j : T3.2 = T2.2 := by rw [← hT3]; rfl
          have f3z : Fz T2 T3 := by rw [← hT3]; exact (Fz.rf.nd).w (by omega)
          have f3g : ∀ g', g' < 49 ∨ g' = 62 ∨ g' = 63 → T3.1 g' = T2.1 g' := by
            intro g' c1
            rw [← hT3, sI_ne (by omega)]
            exact funext fun j' => ndS_i (by omega)
          -- the last one, or the node itself, is told of the new one
          have link : ∀ (gg jj : Nat), (gg = 52 ∧ jj = n ∧ last = -1 ∨ gg = 55 ∧ nI jj = last ∧ n < jj ∧ jj < nN T) → wp (rl_Model_arguments_6 (RR nf (d + 5)) nf g (sI T3 gg jj (nI (nN T2))) (nI n) (nI (20 - m)) c (nI (q + 1)) (nI (nN T2))) (fun _ _ T' => AQ X T n last q i m (eb (pArgs (xK X) (pEx (xK X) m 0) kc f (q + 1) j) fun r j2 => .ok (tN 10 0 0 a r, j2)) T') := by
            intro gg jj hgj
            have hjj : jj < nN T := by omega
            have hgg : gg = 52 ∨ gg = 55 := by omega
            have hG4 := hG3.w (g := gg) (j := jj) (v := nI (nN T2)) (by omega)
            have hN4 : nN (sI T3 gg jj (nI (nN T2))) = nN T2 + 1 := by rw [nN_w (by omega), hN3]
            have hU4 : nU (sI T3 gg jj (nI (nN T2))) = nU T2 := by rw [nU_w (by omega), hU3]
            refine wp_mono (ih g (q + 1) (sI T3 gg jj (nI (nN T2))) j n (nI (nN T2)) hG4 (by rw [hN4]; omega) (by rw [hN4]; omega) (by omega) (by omega) (by omega) (Or.inr ⟨by omega, nN T2, rfl, by omega, by rw [hN4]; omega⟩)) ?_
            intro _ _ T5 h5
            generalize pArgs (xK X) (pEx (xK X) m 0) kc f (q + 1) j = res at h5 ⊢
            cases res with
            | error e =>
              obtain ⟨s1, s2, s3⟩ := h5
              refine ⟨by omega, s2, s3.fz (hF1.1.tr (r3.1.tr (f3z.w (by omega))))⟩
            | ok tj =>
              obtain ⟨rr, j2⟩ := tj
              obtain ⟨s1, s2, s3, s4, s5, z, s6, s7, s8⟩ := h5
              rw [hN4] at s5 s6
              have k55 : (sI T3 gg jj (nI (nN T2))).1 55 (nN T2) = -1 := by
                rw [rdI, if_neg (by omega)]
                exact hnd.2.2.2.2.2.1
              have s9 := s8 (nN T2) rfl (by rw [hN4]; omega) k55
              have hN5 := s3.2.2.2.2.2.1
              rw [hN4] at hN5
              -- a field of an old node, from T to the end
              have old : ∀ g' j', 50 ≤ g' → g' ≤ 61 → g' ≠ 60 → j' < nN T2 + 1 → ¬ (g' = 53 ∧ j' = n) → ¬ (g' = gg ∧ j' = jj) → ¬ (g' = 55 ∧ j' = nN T2) → T5.1 g' j' = T3.1 g' j' := by
                intro g' j' c1 c2 c3 c4 c5 c6 c7
                rw [s3.2.1 g' j' c1 c2 c3 (by rw [hN4]; omega) c5 (by
                  intro q'
                  exact neg1_lt (j := nN T2) (by omega) q'.2.2) (by
                  intro q'
                  have := nI_inj (a := j') (b := nN T2) (by omega) (by omega) q'.2
                  omega), rdI, if_neg (by omega)]
              refine ⟨by omega, s2, ⟨hF1.1.tr (r3.1.tr ((f3z.w (by omega)).tr s3.1)), fun g' j' c1 c2 c3 c4 c5 c6 c7 => ?_, fun j' c4 => ?_, ?_, fun j' c4 => ?_, by omega, fun g' c => ?_, ?_⟩, ?_, by omega, nI (nN T2), ?_, ?_, ?_⟩
              · rw [old g' j' c1 c2 c3 (by omega) c5 (by
                  rintro ⟨q1, q2⟩
                  rcases hgj with ⟨a1, a2, a3⟩ | ⟨a1, a2, a3, a4⟩
                  · exact c6 ⟨by omega, by omega, a3⟩
                  · exact c7 ⟨by omega, by rw [q2]; exact a2⟩) (by omega), f3 g' j' (by omega) (by omega), r3.2.1.1 g' j' c1 c2 c3 (by omega) (by omega)]
                exact hF1.2.1 g' j' c1 c2 c3 c4 c5 c6 c7
              · rw [s3.2.2.1 j' (by rw [hN4]; omega), rdIJ, f3j, r3.2.1.2.1 j' (by omega) (by omega)]
                exact hF1.2.2.1 j' c4
              · have u1 := s3.2.2.2.1
                rw [hU4] at u1
                have u2 := r3.2.1.2.2.1
                have u3 := hF1.2.2.2.1
                omega
              · have u2 := r3.2.1.2.2.1
                have u3 := hF1.2.2.2.1
                have v1 := s3.2.2.2.2.1 j' (by rw [hU4]; omega)
                have v2 := r3.2.1.2.2.2 j' (by omega)
                have v3 := hF1.2.2.2.2.1 j' c4
                rw [rdIJ, sI_ne (by omega), f3j, f3g 47 (by omega)] at v1
                exact ⟨v1.1.trans (v2.1.trans v3.1), v1.2.trans (v2.2.trans v3.2)⟩
              · rw [s3.2.2.2.2.2.2.1 g' c, sI_ne (by omega), f3g g' (by omega), r3.2.2.2.1 g' c]
                exact hF1.2.2.2.2.2.2.1 g' c
              · rw [s3.2.2.2.2.2.2.2]
                show T3.2 41 = _
                rw [f3j, r3.2.2.2.2]
                exact hF1.2.2.2.2.2.2.2
              · rw [s4]
                congr 1
                show q + 1 + lenT rr = q + (lenT rr + 1)
                omega
              · rw [RepM_n]
                unfold RpN
                simp only [Nat.reduceEqDiff, if_false, if_true]
                have o2 : ∀ g', 50 ≤ g' → g' ≤ 61 → g' ≠ 60 → g' ≠ 55 → T5.1 g' (nN T2) = T3.1 g' (nN T2) := fun g' c1 c2 c3 c4 => old g' (nN T2) c1 c2 c3 (by omega) (by omega) (by omega) (by omega)
                refine ⟨nN T2, nI qn, z, rfl, by omega, by omega, ?_, ?_, ?_, ?_, s9, s6⟩
                · rw [hN1] at r4
                  refine RepM.ag ⟨fun g' j' c1 c2 c3 c4 c5 => ?_, fun j' c4 c5 => ?_, ?_, fun j' c4 => ?_⟩ r4
                  · rw [old g' j' c1 c2 c3 (by omega) (by omega) (by omega) (by omega), f3 g' j' (by omega) (by omega)]
                  · rw [s3.2.2.1 j' (by rw [hN4]; omega), rdIJ, f3j]
                  · have u1 := s3.2.2.2.1
                    rw [hU4] at u1
                    exact u1
                  · have v1 := s3.2.2.2.2.1 j' (by rw [hU4]; omega)
                    rw [rdIJ, sI_ne (by omega), f3j, f3g 47 (by omega)] at v1
                    exact v1
                · rw [o2 50 (by omega) (by omega) (by omega) (by omega)]; exact hnd.1
                · rw [o2 51 (by omega) (by omega) (by omega) (by omega)]; exact hnd.2.1
                · rw [o2 52 (by omega) (by omega) (by omega) (by omega)]; exact hnd.2.2.1
              · intro hl _
                rcases hgj with ⟨a1, a2, a3⟩ | ⟨a1, a2, a3, a4⟩
                · subst a1; subst a2
                  rw [s3.2.1 52 jj (by omega) (by omega) (by omega) (by rw [hN4]; omega) (by omega) (by
                    intro q'
                    exact neg1_lt (j := nN T2) (by omega) q'.2.2) (by omega), sI_v]
                · exact absurd (a2.trans hl) (neg1_lt (by omega))
              · intro L hL hL2 _
                rcases hgj with ⟨a1, a2, a3⟩ | ⟨a1, a2, a3, a4⟩
                · exact absurd (hL.symm.trans a3) (neg1_lt (by omega))
                · have e3 : jj = L := nI_inj (by omega) (by omega) (a2.trans hL)
                  subst e3
                  subst a1
                  rw [s3.2.1 55 jj (by omega) (by omega) (by omega) (by rw [hN4]; omega) (by omega) (by omega) (by
                    intro q'
                    have := nI_inj (a := jj) (b := nN T2) (by omega) (by omega) q'.2
                    omega), sI_v]
          rcases h6 with ⟨h6, h7⟩ | ⟨h6, L, h7, h8, h9⟩
          · refine wp_f (by rw [h7]; decide) ?_
            refine wp_gd hn ?_
            refine wp_st ?_
            refine wp_v ?_
            rw [cn, nI_1]
            exact link 52 n (Or.inl ⟨rfl, rfl, h7⟩)
          · refine wp_t (by rw [h7]; exact nI0le (by omega)) ?_
            refine wp_gd (by rw [h7]; exact nin (by omega) (by omega)) ?_
            refine wp_st ?_
            refine wp_v ?_
            rw [h7, nc (m := L) (by omega), nI_1]
            rw [h7] at link
            exact link 55 L (Or.inr ⟨rfl, rfl, h8, h9⟩)
      have hl' : ¬ (0 : Int32) ≤ last ∨ inb last 8200 := by
        rcases h6 with h6 | ⟨_, L, h6, h7, h8⟩
        · rw [h6.2]; exact Or.inl (by decide)
        · rw [h6]; exact Or.inr (nin (by omega) (by omega))
      have FA0 : FA n last T T := ⟨Fz.rf, fun _ _ _ _ _ _ _ _ _ => rfl, fun _ _ => rfl, Nat.le_refl _, fun _ _ => ⟨rfl, rfl⟩, Nat.le_refl _, fun _ _ => rfl, rfl⟩
      have FA1 : FA n last T (advS T) := ⟨Fz.rf.adv, fun _ _ _ _ _ _ _ _ _ => advS_i (by omega), fun _ _ => advS_j (by omega), by rw [nU_adv]; exact Nat.le_refl _, fun _ _ => ⟨advS_j (by omega), advS_i (by omega)⟩, by rw [nN_adv]; exact Nat.le_refl _, fun _ _ => advS_if (by omega), advS_jf (by omega)⟩
      rw [pArgs, if_neg hk]
      by_cases hq : q = 0
      · subst hq
        refine wp_t (by decide) ?_
        refine wp_f (by decide) ?_
        rw [if_neg (by omega), if_neg (by omega), if_pos rfl]
        exact main T i hG (by omega) (by omega) rfl FA0 rfl (fun _ => rfl) (fun _ _ => trivial) (by omega)
      · refine wp_f (fun q0 => hq (by have := (nI_leI (a := q) (b := 0) (by omega) (by omega)).mp q0; omega)) ?_
        by_cases hk2 : xK X i = 47
        · have hj := hG.lt hX (by omega)
          refine wp_be (q_ndY hX hG.1 hG.2.1 47 rfl hk2 (by omega)) ?_
          rw [if_neg (by omega)]
          by_cases h8 : q = 8
          · subst h8
            refine wp_t (by decide) ?_
            have hG1 := hG.adv hX hj
            refine wp_be (q_wrong0 hG1.2.1) ?_
            have hz := hG1.fail (B := nN T) Fz.rf.adv (by rw [nN_adv]; exact Nat.le_refl _)
            rw [if_pos rfl]
            refine wp_mono (b_hold2 hnf (by omega) hz (by omega) hn hl') ?_
            intro _ _ T3 h3
            exact ⟨by omega, hj, h3.le (by omega)⟩
          · refine wp_f (fun q8 => h8 (nI_inj (a := q) (b := 8) (by omega) (by omega) q8)) ?_
            rw [if_neg h8, if_neg hq]
            exact main (advS T) (i + 1) (hG.adv hX hj) (by omega) (by omega) nN_adv FA1 (advS_i (by omega)) (fun _ => advS_i (by omega)) (fun _ _ => trivial) (by omega)
        · refine wp_be (q_ndN hX hG.1 hG.2.1 47 rfl hk2 (by omega) (by omega)) ?_
          rw [if_pos ⟨hq, hk2⟩]
          have hz := hG.fail (B := nN T) Fz.rf (Nat.le_refl _)
          have fin : wp (rj_Model_arguments_43 (RR nf (d + 5)) nf (rl_Model_arguments_6 (RR nf (d + 5)) nf g) (failS T 1 (T.1 3 0)) (nI n) (nI (20 - m)) c (nI q) last) (fun _ _ T' => AQ X T n last q i m (.error i) T') := by
            refine wp_mono (b_hold2 hnf (by omega) hz (by omega) hn hl') ?_
            intro _ _ T3 h3
            exact ⟨by omega, hi, h3.le (by omega)⟩
          refine wp_if (fun _ => ?_) (fun _ => fin)
          refine wp_be (q_wrong1 hz.bd) ?_
          exact fin
end AX
