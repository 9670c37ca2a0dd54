/-! ARGUMENTS -/
abbrev FA (n : Nat) (last : Int32) (T T' : gSt) : Prop := Fz T T' ∧ (∀ g j, 50 ≤ g → g ≤ 61 → g ≠ 60 → j < nN T → ¬ (g = 53 ∧ j = n) → ¬ (g = 52 ∧ j = n ∧ last = -1) → ¬ (g = 55 ∧ nI j = last) → T'.1 g j = T.1 g j) ∧ (∀ j, j < nN T → T'.2 56 j = T.2 56 j) ∧ nU T ≤ nU T' ∧ (∀ j, j < nU T → T'.2 46 j = T.2 46 j ∧ T'.1 47 j = T.1 47 j) ∧ nN T ≤ nN T' ∧ (∀ g, (37 ≤ g ∧ g ≤ 44) ∨ g = 62 ∨ g = 63 → T'.1 g = T.1 g) ∧ T'.2 41 = T.2 41
section AX
variable {nf d : Nat} {T T0 T1 T2 : gSt} {X : Lx} {e B i m n : Nat}
theorem neg1_lt {j : Nat} (h : j < 100000) : nI j ≠ -1 := by
  intro q
  have := congrArg Int32.toInt q
  rw [nI_toInt (by omega)] at this
  have e2 : (-1 : Int32).toInt = -1 := by decide
  omega
theorem nI_inj {a b : Nat} (ha : a < 100000) (hb : b < 100000) (h : nI a = nI b) : a = b := (nI_eq (by omega) (by omega)).mp h
theorem nI0le {a : Nat} (ha : a < 100000) : (0 : Int32) ≤ nI a := by
  rw [Int32.le_iff_toInt_le, nI_toInt (by omega)]
  have e2 : (0 : Int32).toInt = 0 := by decide
  omega
theorem FA.fe {last : Int32} {S : gSt} (hS : Fe S T) (h : FA n last T T1) (hn : nN S ≤ n) (hl : last = -1 ∨ ∃ L, last = nI L ∧ nN S ≤ L ∧ L < 8200) (hb : nN T < 8200) : Fe S T1 := by
  refine ⟨hS.1.tr h.1, ⟨fun g j a b c d e => ?_, fun j d e => ?_, Nat.le_trans hS.2.1.2.2.1 h.2.2.2.1, fun j hj => ?_⟩, Nat.le_trans hS.2.2.1 h.2.2.2.2.2.1, fun g q => (h.2.2.2.2.2.2.1 g q).trans (hS.2.2.2.1 g q), h.2.2.2.2.2.2.2.trans hS.2.2.2.2⟩
  · refine (h.2.1 g j a b c (Nat.lt_of_lt_of_le e hS.2.2.1) (by omega) (by omega) ?_).trans (hS.2.1.1 g j a b c d e)
    intro q
    have hlt := hS.2.2.1
    rcases hl with hl | ⟨L, hl, h1, h2⟩
    · exact neg1_lt (j := j) (by omega) (q.2.trans hl)
    · have := nI_inj (a := j) (b := L) (by omega) (by omega) (q.2.trans hl)
      omega
  · exact (h.2.2.1 j (Nat.lt_of_lt_of_le e hS.2.2.1)).trans (hS.2.1.2.1 j d e)
  · have q := h.2.2.2.2.1 j (Nat.lt_of_lt_of_le hj hS.2.1.2.2.1)
    have q2 := hS.2.1.2.2.2 j hj
    exact ⟨q.1.trans q2.1, q.2.trans q2.2⟩
theorem b_hold {fl : Nat} (hfl : 0 < fl) (h : Zb X e T0 B T2) (hB : B < 8200) {r x1 x2 x3 x4 x5 : Int32} (hr : inb r 8200) (hx : inb x1 8200) (hl : ¬ (0 : Int32) ≤ x5 ∨ inb x5 8200) : wp (gd (inb r 8200) <| bi (RR nf (d + 5) 30 T2 [(30 : Int32), T2.1 51 r.toNatClampNeg] []) fun r17 l17 T17 => gd (inb r17 8200) <| stK (sI T17 52 r17.toNatClampNeg r) fun T18 => if (0 : Int32) ≤ x5 then (gd (inb x5 8200) <| stK (sI T18 55 x5.toNatClampNeg r17) fun T20 => vK (x4 + (1 : Int32)) fun z21 => rl_Model_arguments_6 (RR nf (d + 5)) nf fl T20 x1 x2 x3 z21 r17) else (gd (inb x1 8200) <| stK (sI T18 52 x1.toNatClampNeg r17) fun T22 => vK (x4 + (1 : Int32)) fun z23 => rl_Model_arguments_6 (RR nf (d + 5)) nf fl T22 x1 x2 x3 z23 r17)) (fun _ _ T' => Zb X e T0 (B + 1) T') := by
  have hb := h.2.2.2.2
  obtain ⟨f', rfl⟩ : ∃ f', fl = f' + 1 := ⟨fl - 1, by omega⟩
  have fin : ∀ T3 q z, Zb X e T0 (B + 1) T3 → wp (rl_Model_arguments_6 (RR nf (d + 5)) nf (f' + 1) T3 x1 x2 x3 q z) (fun _ _ T' => Zb X e T0 (B + 1) T') := by
    intro T3 q z h3
    rw [rl_Model_arguments_6]
    refine wp_be (q_bad1 h3.bd) ?_
    refine wp_f (by decide) ?_
    refine wp_be (q_nd1 h3.bd _) ?_
    refine wp_gd hx ?_
    refine wp_st ?_
    exact wp_some (h3.w (by omega))
  refine wp_gd hr ?_
  refine wp_be (q_node h.2.2.2.1 (by omega) _ _) ?_
  have hz := h.nd (k := 30) (p := T2.1 51 r.toNatClampNeg) hB
  refine wp_gd (nin (by omega) (by omega)) ?_
  refine wp_st ?_
  refine wp_if (fun c => ?_) (fun c => ?_)
  · refine wp_gd (hl.resolve_left (fun q => q c)) ?_
    refine wp_st ?_
    refine wp_v ?_
    exact fin _ _ _ ((hz.w (by omega)).w (by omega))
  · refine wp_gd hx ?_
    refine wp_st ?_
    refine wp_v ?_
    exact fin _ _ _ ((hz.w (by omega)).w (by omega))
theorem b_hold2 (hnf : 5000 ≤ nf) {fl : Nat} (hfl : 0 < fl) (h : Zb X e T0 B T2) (hB : B + 1 < 8200) {x1 x2 x3 x4 x5 : Int32} (hx : inb x1 8200) (hl : ¬ (0 : Int32) ≤ x5 ∨ inb x5 8200) : wp (rj_Model_arguments_43 (RR nf (d + 5)) nf (rl_Model_arguments_6 (RR nf (d + 5)) nf fl) T2 x1 x2 x3 x4 x5) (fun _ _ T' => Zb X e T0 (B + 2) T') := by
  unfold rj_Model_arguments_43
  refine wp_bi (b_expr (d := d + 1) hnf h (by omega) _) ?_
  intro r l T3 h3
  exact b_hold hfl h3.2 (by omega) h3.1 hx hl
def AQ (X : Lx) (T : gSt) (n : Nat) (last : Int32) (q i m : Nat) (res : ER) (T' : gSt) : Prop := match res with
  | .ok (r, j) => i < j ∧ Gd X T' j ∧ FA n last T T' ∧ T'.1 53 n = nI (q + lenT r) ∧ nN T' + 2 * i ≤ nN T + 2 * j ∧ ∃ z, RepM X T' r (nN T) (nN T') z ∧ (last = -1 → T.1 52 n = -1 → T'.1 52 n = z) ∧ ∀ L, last = nI L → L < nN T → T.1 55 L = -1 → T'.1 55 L = z
  | .error e => i ≤ e ∧ e ≤ xn X ∧ Zb X e T (2 * e + 4 * m + 6) T'
set_option maxHeartbeats 4000000 in
theorem AQ_cons {T3 T5 : gSt} {h qn j q gg jj : Nat} {last o2 o3 s us mu fd : Int32} {w : Int64} {a : Tr} {res : ER} (hF : Fe T T3) (hN : nN T3 = h + 1) (hh : nN T ≤ h) (h8 : h < 8200) (hn : n < nN T) (hR : RepM X T3 a (nN T) h (nI qn)) (hnd : ND T3 h 30 (nI (xP X (bgT a))) (nI qn) o2 o3 (-1) w s us mu fd) (hgj : gg = 52 ∧ jj = n ∧ last = -1 ∨ gg = 55 ∧ last = nI jj ∧ n < jj ∧ jj < nN T) (hij : i < j) (hb : h + 1 + 2 * i ≤ nN T + 2 * j) (hq : AQ X (sI T3 gg jj (nI h)) n (nI h) (q + 1) j m res T5) : AQ X T n last q i m (eb res fun r j2 => .ok (tD 10 0 0 a r, j2)) T5 := by
  have hjj : jj < nN T := by omega
  have hgg : gg = 52 ∨ gg = 55 := by omega
  have hN4 : nN (sI T3 gg jj (nI h)) = h + 1 := by rw [nN_w (by omega), hN]
  have hU4 : nU (sI T3 gg jj (nI h)) = nU T3 := by rw [nU_w (by omega)]
  have fz4 : Fz T (sI T3 gg jj (nI h)) := hF.1.w (show pwI gg by omega)
  cases res with
  | error e =>
    obtain ⟨s1, s2, s3⟩ := hq
    exact ⟨by omega, s2, s3.fz fz4⟩
  | ok tj =>
    obtain ⟨rr, j2⟩ := tj
    obtain ⟨s1, s2, s3, s4, s5, z, s6, s7, s8⟩ := hq
    obtain ⟨t1, t2, t3, t4, t5, t6, t7, t8⟩ := s3
    rw [hN4] at s5 s6 t2 t3 t6
    rw [hU4] at t4 t5
    have fz5 : Fz T T5 := fz4.tr t1
    have k55 : (sI T3 gg jj (nI h)).1 55 h = -1 := by
      rw [rdI, if_neg (by omega)]
      exact hnd.2.2.2.2.2.1
    have s9 := s8 h rfl (by rw [hN4]; omega) k55
    have nlh : nI h ≠ -1 := neg1_lt (by omega)
    have old : ∀ g' j', 50 ≤ g' → g' ≤ 61 → g' ≠ 60 → j' < h + 1 → ¬ (g' = 53 ∧ j' = n) → ¬ (g' = gg ∧ j' = jj) → ¬ (g' = 55 ∧ j' = h) → T5.1 g' j' = T3.1 g' j' := by
      intro g' j' c1 c2 c3 c4 c5 c6 c7
      rw [t2 g' j' c1 c2 c3 c4 c5 (fun q' => nlh q'.2.2) (fun q' => c7 ⟨q'.1, nI_inj (by omega) (by omega) q'.2⟩), rdI, if_neg c6]
    have o2' : ∀ g', 50 ≤ g' → g' ≤ 61 → g' ≠ 60 → g' ≠ 55 → T5.1 g' h = T3.1 g' h := fun g' c1 c2 c3 c4 => old g' h c1 c2 c3 (by omega) (by omega) (by omega) (by omega)
    refine ⟨by omega, s2, ⟨fz5, ?_, ?_, ?_, ?_, ?_, ?_, ?_⟩, ?_, by omega, nI h, ?_, ?_, ?_⟩
    · intro g' j' c1 c2 c3 c4 c5 c6 c7
      have c8 : ¬ (g' = gg ∧ j' = jj) := by
        intro q'
        rcases hgj with ⟨a1, a2, a3⟩ | ⟨a1, a2, a3, a4⟩
        · exact c6 ⟨q'.1.trans a1, q'.2.trans a2, a3⟩
        · exact c7 ⟨q'.1.trans a1, by rw [q'.2]; exact a2.symm⟩
      rw [old g' j' c1 c2 c3 (by omega) c5 c8 (by omega)]
      exact hF.2.1.1 g' j' c1 c2 c3 (by omega) c4
    · intro j' c4
      rw [t3 j' (by omega), rdIJ]
      exact hF.2.1.2.1 j' (by omega) c4
    · exact Nat.le_trans hF.2.1.2.2.1 t4
    · intro j' c4
      have v1 := t5 j' (Nat.lt_of_lt_of_le c4 hF.2.1.2.2.1)
      rw [rdIJ, sI_ne (by omega)] at v1
      have v2 := hF.2.1.2.2.2 j' c4
      exact ⟨v1.1.trans v2.1, v1.2.trans v2.2⟩
    · omega
    · intro g' c
      rw [t7 g' c, sI_ne (by omega)]
      exact hF.2.2.2.1 g' c
    · rw [t8]
      exact hF.2.2.2.2
    · rw [s4]
      congr 1
      show q + 1 + lenT rr = q + (lenT rr + 1)
      omega
    · rw [RepM_n]
      unfold RpN
      simp only [Nat.reduceEqDiff, if_false, if_true]
      refine ⟨h, nI qn, z, rfl, hh, by omega, ?_, ?_, ?_, ?_, s9, s6⟩
      · refine RepM.ag ⟨fun g' j' c1 c2 c3 c4 c5 => old g' j' c1 c2 c3 (by omega) (by omega) (by omega) (by omega), fun j' c4 c5 => ?_, t4, fun j' c4 => ?_⟩ hR
        · rw [t3 j' (by omega), rdIJ]
        · have v1 := t5 j' c4
          rw [rdIJ, sI_ne (by omega)] at v1
          exact v1
      · rw [o2' 50 (by omega) (by omega) (by omega) (by omega)]; exact hnd.1
      · rw [o2' 51 (by omega) (by omega) (by omega) (by omega)]; exact hnd.2.1
      · rw [o2' 52 (by omega) (by omega) (by omega) (by omega)]; exact hnd.2.2.1
    · intro hl _
      rcases hgj with ⟨a1, a2, a3⟩ | ⟨a1, a2, a3, a4⟩
      · rw [← a2, t2 52 jj (by omega) (by omega) (by omega) (by omega) (by omega) (fun q' => nlh q'.2.2) (by omega), ← a1, sI_v]
      · exact absurd (a2.symm.trans hl) (neg1_lt (by omega))
    · intro L hL hL2 _
      rcases hgj with ⟨a1, a2, a3⟩ | ⟨a1, a2, a3, a4⟩
      · exact absurd (hL.symm.trans a3) (neg1_lt (by omega))
      · have e3 : jj = L := nI_inj (by omega) (by omega) (a2.symm.trans hL)
        rw [← e3, t2 55 jj (by omega) (by omega) (by omega) (by omega) (by omega) (by omega) (fun q' => by
          have := nI_inj (a := jj) (b := h) (by omega) (by omega) q'.2
          omega), ← a1, sI_v]
set_option maxHeartbeats 4000000 in
theorem x_args_l (hX : LX X) (hnf : 5000 ≤ nf) (hm : m ≤ 20) (hE : ∀ T i, Gd X T i → nN T ≤ 2 * i → wp (RR nf (d + 5) 35 T [nI (21 - m)] []) (fun r _ T' => EQ X T i m (pEx (xK X) m 0 i) r T')) (kc : Nat) (c : Int32) (hc : chK kc = c) (hkc : kc = 43 ∨ kc = 41) : ∀ (f fl q : Nat) (T : gSt) (i n L : Nat) (last : Int32), Gd X T i → nN T ≤ 2 * i → n < nN T → q ≤ 8 → xn X < f + i → xn X + 1 < fl + i → (q = 0 ∧ last = -1 ∨ 0 < q ∧ last = nI L ∧ n < L ∧ L < nN T) → wp (rl_Model_arguments_6 (RR nf (d + 5)) nf fl T (nI n) (nI (20 - m)) c (nI q) last) (fun _ _ T' => AQ X T n last q i m (pArgs (xK X) (pEx (xK X) m 0) kc f q i) T') := by
  have hx1 := hX.1
  have hk40 : 40 ≤ kc ∧ kc < 63 := by omega
  have ep : nI (20 - m) + 1 = nI (21 - m) := by rw [nI_1]; congr 1; omega
  intro f
  induction f with
  | zero => intro fl q T i n L last hG h1 h2 h3 h4 h5 h6; have := hG.1.1; omega
  | succ f ih =>
    intro fl q T i n L last hG h1 h2 h3 h4 h5 h6
    have hi := hG.1.1
    obtain ⟨g, rfl⟩ : ∃ g, fl = g + 1 := ⟨fl - 1, by omega⟩
    have hn : inb (nI n) 8200 := nin (by omega) (by omega)
    have cn : (nI n).toNatClampNeg = n := nc (by omega)
    rw [rl_Model_arguments_6]
    refine wp_be (q_bad0 hG.2.1) ?_
    refine wp_t rfl ?_
    by_cases hk : xK X i = kc
    · have hj := hG.lt hX (by omega)
      refine wp_be (q_sgY hX hG.1 hG.2.1 kc hc hk hk40.1) ?_
      refine wp_f (by decide) ?_
      refine wp_be (q_ndY hX hG.1 hG.2.1 kc hc hk hk40.1) ?_
      refine wp_gd hn ?_
      refine wp_st ?_
      refine wp_some ?_
      rw [cn]
      rw [pArgs, if_pos hk]
      have e1 : nN (sI (advS T) 53 n (nI q)) = nN T := by rw [nN_w (by omega), nN_adv]
      have e2 : nU (sI (advS T) 53 n (nI q)) = nU T := by rw [nU_w (by omega), nU_adv]
      refine ⟨by omega, (hG.adv hX hj).w (by omega), ⟨Fz.rf.adv.w (by omega), fun g' j' a b c' d' x1 x2 x3 => ?_, fun j' d' => ?_, by rw [e2]; exact Nat.le_refl _, fun j' d' => ?_, by rw [e1]; exact Nat.le_refl _, fun g' q' => ?_, ?_⟩, ?_, by rw [e1]; omega, -1, ?_, ?_, ?_⟩
      · rw [rdI, if_neg (by omega), advS_i (by omega)]
      · rw [rdIJ, advS_j (by omega)]
      · rw [rdIJ, sI_ne (by omega), advS_j (by omega), advS_i (by omega)]; exact ⟨rfl, rfl⟩
      · rw [sI_ne (by omega), advS_if (by omega)]
      · exact advS_jf (T := T) (g := 41) (by omega)
      · rw [sI_v]; rfl
      · rw [e1]; exact ⟨rfl, rfl⟩
      · intro _ h; rw [rdI, if_neg (by omega), advS_i (by omega)]; exact h
      · intro L _ _ h; rw [rdI, if_neg (by omega), advS_i (by omega)]; exact h
    · refine wp_be (q_sgN hX hG.1 hG.2.1 kc hc hk hk40.1 hk40.2) ?_
      refine wp_t rfl ?_
      have hl' : ¬ (0 : Int32) ≤ last ∨ inb last 8200 := by
        rcases h6 with h6 | ⟨_, h6, h7, h8⟩
        · rw [h6.2]; exact Or.inl (by decide)
        · rw [h6]; exact Or.inr (nin (by omega) (by omega))
      -- the EXPR and what follows it
      have main : ∀ T1 i1, Gd X T1 i1 → i ≤ i1 → i1 ≤ i + 1 → nN T1 = nN T → Fe T T1 → q < 8 → wp (rj_Model_arguments_43 (RR nf (d + 5)) nf (rl_Model_arguments_6 (RR nf (d + 5)) nf g) T1 (nI n) (nI (20 - m)) c (nI q) last) (fun _ _ T' => AQ X T n last q i m (eb (pEx (xK X) m 0 i1) fun a j => eb (pArgs (xK X) (pEx (xK X) m 0) kc f (q + 1) j) fun r j2 => .ok (tD 10 0 0 a r, j2)) T') := by
        intro T1 i1 hG1 hi1 hi2 hN1 hF1 hq8
        unfold rj_Model_arguments_43
        rw [ep]
        refine wp_bi (hE T1 i1 hG1 (by omega)) ?_
        intro r l T2 hr
        cases hres : pEx (xK X) m 0 i1 with
        | error e =>
          rw [hres] at hr
          obtain ⟨r1, r2, r3, r4⟩ := hr
          refine wp_mono (b_hold (by omega) r4 (by omega) r3 hn hl') ?_
          intro _ _ T3 h3
          exact ⟨by omega, r2, (h3.fz hF1.1).le (by omega)⟩
        | ok tj =>
          obtain ⟨a, j⟩ := tj
          rw [hres] at hr
          obtain ⟨r1, r2, r3, r4, r5, qn, r6, r7, r8, r9⟩ := hr
          have hj := r2.1.1
          have hb2 : nN T2 < 8200 := by omega
          subst r6
          refine wp_gd (nin (by omega) (by omega)) ?_
          rw [nc (m := qn) (by omega)]
          refine wp_be (q_node r2.2.2.1 hb2 _ _) ?_
          refine wp_gd (nin (by omega) (by omega)) ?_
          refine wp_st ?_
          rw [nc (m := nN T2) (by omega), r9]
          have hG3 := (r2.nd (k := 30) (p := nI (xP X (bgT a))) hb2).w (g := 52) (j := nN T2) (v := nI qn) (by omega)
          have hN3 : nN (sI (ndS T2 (nN T2) 30 (nI (xP X (bgT a)))) 52 (nN T2) (nI qn)) = nN T2 + 1 := by rw [nN_w (by omega), nN_nd hb2]
          have hnd : ND (sI (ndS T2 (nN T2) 30 (nI (xP X (bgT a)))) 52 (nN T2) (nI qn)) (nN T2) 30 (nI (xP X (bgT a))) (nI qn) (-1) (-1) (-1) (T2.2 56 (nN T2)) (T2.1 57 (nN T2)) (T2.1 58 (nN T2)) 0 (T2.1 61 (nN T2)) := ND.nd.w52
          have hF3 : Fe T (sI (ndS T2 (nN T2) 30 (nI (xP X (bgT a)))) 52 (nN T2) (nI qn)) := ((hF1.tr r3).nd hb2).w (by omega) (by omega)
          have hR3 : RepM X (sI (ndS T2 (nN T2) 30 (nI (xP X (bgT a)))) 52 (nN T2) (nI qn)) a (nN T) (nN T2) (nI qn) := by
            rw [hN1] at r4
            exact RepM.ag ((Ag.rf.nd (Or.inr (Nat.le_refl _))).w (by omega) (Or.inr (Nat.le_refl _))) r4
          generalize sI (ndS T2 (nN T2) 30 (nI (xP X (bgT a)))) 52 (nN T2) (nI qn) = T3 at *
          have link : ∀ (gg jj : Nat), (gg = 52 ∧ jj = n ∧ last = -1 ∨ gg = 55 ∧ last = nI jj ∧ n < jj ∧ jj < nN T) → wp (rl_Model_arguments_6 (RR nf (d + 5)) nf g (sI T3 gg jj (nI (nN T2))) (nI n) (nI (20 - m)) c (nI (q + 1)) (nI (nN T2))) (fun _ _ T' => AQ X T n last q i m (eb (pArgs (xK X) (pEx (xK X) m 0) kc f (q + 1) j) fun r j2 => .ok (tD 10 0 0 a r, j2)) T') := by
            intro gg jj hgj
            have hgg : 49 < gg := by omega
            have hN4 : nN (sI T3 gg jj (nI (nN T2))) = nN T2 + 1 := by rw [nN_w (by omega), hN3]
            refine wp_mono (ih g (q + 1) (sI T3 gg jj (nI (nN T2))) j n (nN T2) (nI (nN T2)) (hG3.w hgg) (by omega) (by omega) (by omega) (by omega) (by omega) (Or.inr ⟨by omega, rfl, by omega, by omega⟩)) ?_
            intro _ _ T5 h5
            exact AQ_cons hF3 hN3 (by omega) (by omega) h2 hR3 hnd hgj (by omega) (by omega) h5
          rcases h6 with ⟨h6, h7⟩ | ⟨h6, h7, h8, h9⟩
          · refine wp_f (by rw [h7]; decide) ?_
            refine wp_gd hn ?_
            refine wp_st ?_
            refine wp_v ?_
            rw [cn, nI_1]
            exact link 52 n (Or.inl ⟨rfl, rfl, h7⟩)
          · refine wp_t (by rw [h7]; exact nI0le (by omega)) ?_
            refine wp_gd (by rw [h7]; exact nin (by omega) (by omega)) ?_
            refine wp_st ?_
            refine wp_v ?_
            rw [show last.toNatClampNeg = L by rw [h7]; exact nc (by omega), nI_1]
            exact link 55 L (Or.inr ⟨rfl, h7, h8, h9⟩)
      rw [pArgs, if_neg hk]
      by_cases hq : q = 0
      · subst hq
        refine wp_t (by decide) ?_
        refine wp_f (by decide) ?_
        rw [if_neg (by omega), if_neg (by omega), if_pos rfl]
        exact main T i hG (by omega) (by omega) rfl Fe.rf (by omega)
      · refine wp_f (fun q0 => hq (by have := (nI_leI (a := q) (b := 0) (by omega) (by omega)).mp q0; omega)) ?_
        by_cases hk2 : xK X i = 47
        · have hj := hG.lt hX (by omega)
          refine wp_be (q_ndY hX hG.1 hG.2.1 47 rfl hk2 (by omega)) ?_
          rw [if_neg (show ¬ (q ≠ 0 ∧ xK X i ≠ 47) by omega)]
          by_cases h8 : q = 8
          · subst h8
            refine wp_t (by decide) ?_
            have hG1 := hG.adv hX hj
            refine wp_be (q_wrong0 hG1.2.1) ?_
            have hz := hG1.fail (B := nN T) Fz.rf.adv (by rw [nN_adv]; exact Nat.le_refl _)
            rw [if_pos rfl]
            refine wp_mono (b_hold2 hnf (by omega) hz (by omega) hn hl') ?_
            intro _ _ T3 h3
            exact ⟨by omega, hj, h3.le (by omega)⟩
          · refine wp_f (fun q8 => h8 (nI_inj (a := q) (b := 8) (by omega) (by omega) q8)) ?_
            rw [if_neg h8, if_neg hq]
            exact main (advS T) (i + 1) (hG.adv hX hj) (by omega) (by omega) nN_adv Fe.rf.adv (by omega)
        · refine wp_be (q_ndN hX hG.1 hG.2.1 47 rfl hk2 (by omega) (by omega)) ?_
          rw [if_pos (show q ≠ 0 ∧ xK X i ≠ 47 from ⟨hq, hk2⟩)]
          have hz := hG.fail (B := nN T) Fz.rf (Nat.le_refl _)
          have fin : wp (rj_Model_arguments_43 (RR nf (d + 5)) nf (rl_Model_arguments_6 (RR nf (d + 5)) nf g) (failS T 1 (T.1 3 0)) (nI n) (nI (20 - m)) c (nI q) last) (fun _ _ T' => AQ X T n last q i m (.error i) T') := by
            refine wp_mono (b_hold2 hnf (by omega) hz (by omega) hn hl') ?_
            intro _ _ T3 h3
            exact ⟨by omega, hi, h3.le (by omega)⟩
          refine wp_if (fun _ => ?_) (fun _ => fin)
          refine wp_be (q_wrong1 hz.bd) ?_
          exact fin
end AX
