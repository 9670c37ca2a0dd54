/-! between calls: start and run */
-/
section SWP
variable {M T M' T' M0 T0 Sf : gSt} {i nf d d' n1 n27 u P W B K : Nat} {p q : Int32}
theorem ru_pg (h : GoO M0 T0 Sf n1 K P W B M T ∨ EnO M0 T0 P W M T) : PgO M0 T0 M T := by
  rcases h with h | h
  · obtain ⟨G, D, nb, mk, rg, na, ng, Fr, Dp, ⟨⟨sim, _⟩, _⟩, _⟩ := h
    exact sim.2.2.2.2.2.2.1
  · obtain ⟨G, D, nb, mk, rg, na, ng, e, ⟨_, _, _, f4⟩, _⟩ := h
    exact f4
theorem Inv.rn {j : Nat} (h : Inv i M T) (hij : i ≤ j) (hP : PgO M0 T0 M T) (hP' : PgO M0 T0 M' T') (r : RnI j M' T') : Inv j M' T' := by
  have oM : ∀ k, k ≤ 99 → M'.1 k = M.1 k := fun k hk => (hP'.1 k hk).trans (hP.1 k hk).symm
  have oT : ∀ k, k ≤ 98 → T'.1 k = T.1 k := fun k hk => (hP'.2.2.1 k hk).trans (hP.2.2.1 k hk).symm
  have m2 : M'.2 = M.2 := hP'.2.1.trans hP.2.1.symm
  have t2 : T'.2 = T.2 := hP'.2.2.2.trans hP.2.2.2.symm
  have an := r.an
  obtain ⟨⟨z0, z1, ⟨c1, c2, c3, c4, c5, c6, c7⟩, z3, z4⟩, ⟨r1, r2, r3⟩, fl, pr, _, _⟩ := h
  have eE : EW T' = EW T := by unfold EW; rw [t2]
  have eS : ∀ s, SW T' s = SW T s := fun s => by unfold SW; rw [t2]
  refine ⟨⟨z0, by rw [oM 1 (by omega)]; exact z1, ⟨by rw [oT 1 (by omega)]; exact c1, c2, fun j hj => by rw [oT 0 (by omega)]; exact c3 j hj, fun j hj => by rw [t2]; exact c4 j hj, by rw [oT 71 (by omega)]; exact c5, by rw [eE]; exact c6, fun s hs => by rw [eS, eE]; exact c7 s hs⟩, by rw [eE]; omega, by rw [oM 0 (by omega), oT 0 (by omega)]; exact z4⟩, ⟨fun c hc => by rw [oM 74 (by omega)]; exact r1 c hc, ?_, ?_⟩, ?_, ?_, Or.inr r, an.2.2.2.2.2.1⟩
  · unfold I78 at r2 ⊢
    rw [oM 7 (by omega), oM 8 (by omega)]
    exact r2
  · unfold I54 at r3 ⊢
    rw [oT 53 (by omega), oT 54 (by omega)]
    exact r3
  · unfold FlI at fl ⊢
    rw [oM 9 (by omega), oT 2 (by omega), oM 7 (by omega), oM 8 (by omega), oT 53 (by omega), oT 54 (by omega)]
    exact fl
  · unfold PrI at pr ⊢
    rw [oM 10 (by omega), oT 3 (by omega)]
    rcases pr with pr | ⟨p1, p2, ⟨n, q1, q2, q3, q4, q5, q6⟩, M2, T2, Sf2, n2, n3, u2, pa, po⟩
    · exact Or.inl pr
    · have eF := cF_eq (M := M) (M' := M') (oM 12 (by omega)) n 0
      refine Or.inr ⟨p1, p2, ⟨n, by rw [oM 11 (by omega)]; exact q1, q2, by rw [eF]; exact q3, by rw [eF, oT 52 (by omega)]; exact q4, by rw [eF, oT 52 (by omega)]; exact q5, ?_⟩, M2, T2, Sf2, n2, n3, u2, pa, po.eq oM m2 oT t2⟩
      rw [oT 52 (by omega), oM 92 (by omega), oM 88 (by omega), oM 89 (by omega), oM 90 (by omega), oM 91 (by omega)]
      exact q6
theorem nI_lt' {a b : Nat} (ha : a < 2 ^ 31) (hb : b < 2 ^ 31) : nI a < nI b ↔ a < b := by
  rw [Int32.lt_iff_toInt_lt, show nI a = Int32.ofNat a from rfl, Int32.toInt_ofNat_of_lt (by omega), show nI b = Int32.ofNat b from rfl, Int32.toInt_ofNat_of_lt (by omega)]
  omega
theorem nI_le' {a b : Nat} (ha : a < 2 ^ 31) (hb : b < 2 ^ 31) : nI a ≤ nI b ↔ a ≤ b := by
  rw [Int32.le_iff_toInt_le, show nI a = Int32.ofNat a from rfl, Int32.toInt_ofNat_of_lt (by omega), show nI b = Int32.ofNat b from rfl, Int32.toInt_ofNat_of_lt (by omega)]
  omega
/-- start */
-/
theorem v_start (h : Inv i M T) (hnf : 970000 ≤ nf) (hd : 20 ≤ d) (hd' : 20 ≤ d') : ∃ r M' T', rb_Model_start (RR nf (d + 1)) nf M p q = some (r, 0, M') ∧ rb_House_start (PP nf (d' + 3)) nf T p q = some (r, 0, T') ∧ Inv (i + 1) M' T' := by
  have h0 := h
  obtain ⟨_, _, _, pr, _, co⟩ := h0
  have hu : Inv (i + 1) M T := h.up (by omega)
  rcases pr with ⟨p1, p2⟩ | ⟨p1, p2, _, M0, T0, Sf, n1, n27, u, pa, po⟩
  · unfold rb_Model_start rb_House_start
    rw [if_pos p1, if_pos p2]
    exact ⟨_, _, _, rfl, rfl, hu⟩
  · have a1 : ¬ M.1 10 0 = 0 := by rw [p1]; decide
    have a2 : ¬ T.1 3 0 = 0 := by rw [p2]; decide
    by_cases c1 : p < 1
    · unfold rb_Model_start rb_House_start
      rw [if_neg a1, if_neg a2, if_pos c1, if_pos c1]
      exact ⟨_, _, _, rfl, rfl, hu⟩
    by_cases c2 : (64 : Int32) < p
    · unfold rb_Model_start rb_House_start
      rw [if_neg a1, if_neg a2, if_neg c1, if_neg c1, if_pos c2, if_pos c2]
      exact ⟨_, _, _, rfl, rfl, hu⟩
    by_cases c3 : q < 4
    · unfold rb_Model_start rb_House_start
      rw [if_neg a1, if_neg a2, if_neg c1, if_neg c1, if_neg c2, if_neg c2, if_pos c3, if_pos c3]
      exact ⟨_, _, _, rfl, rfl, hu⟩
    by_cases c4 : q ≤ (64 : Int32)
    · have n1' : ¬ p < 0 := fun w => c1 (Int32.lt_trans w (by decide))
      have n2' : ¬ q < 0 := fun w => c3 (Int32.lt_trans w (by decide))
      obtain ⟨P, rfl, hP⟩ := i32_nn n1'
      obtain ⟨W, rfl, hW⟩ := i32_nn n2'
      have P1 : 1 ≤ P := Decidable.byContradiction fun w => c1 ((nI_lt' (b := 1) hP (by omega)).mpr (by omega))
      have P2 : P ≤ 64 := Decidable.byContradiction fun w => c2 ((nI_lt' (a := 64) (by omega) hP).mpr (by omega))
      have W1 : 4 ≤ W := Decidable.byContradiction fun w => c3 ((nI_lt' (b := 4) hW (by omega)).mpr (by omega))
      have W2 : W ≤ 64 := (nI_le' (b := 64) hW (by omega)).mp c4
      obtain ⟨M', T', e1, e2, e3⟩ := start_both (d := d) (d' := d') pa po a1 co P1 P2 W1 W2 hnf hd hd'
      refine ⟨1, M', T', e1, ?_, h.rn (by omega) po (ru_pg (e3 0)) ⟨M0, T0, Sf, n1, n27, u, P, W, 241320, pa, Nat.le_add_right _ _, e3⟩⟩
      unfold rb_House_start
      rw [if_neg a2, if_neg c1, if_neg c2, if_neg c3, if_pos c4, e_Machine_begin, e2, bis]
    · unfold rb_Model_start rb_House_start
      rw [if_neg a1, if_neg a2, if_neg c1, if_neg c1, if_neg c2, if_neg c2, if_neg c3, if_neg c3, if_neg c4, if_neg c4]
      exact ⟨_, _, _, rfl, rfl, hu⟩
/-- run */
-/
theorem v_run (h : Inv i M T) (hi : i ≤ 600) (hnf : 970000 ≤ nf) (hd : 20 ≤ d) (hd' : 20 ≤ d') : ∃ r M' T', rb_Model_run_I (RR nf (d + 1)) nf M p = some (r, 0, M') ∧ rb_House_run (PP nf (d' + 2)) nf T p = some (r, 0, T') ∧ Inv (i + 1) M' T' := by
  have hu : Inv (i + 1) M T := h.up (by omega)
  by_cases c1 : p < 1
  · unfold rb_Model_run_I rb_House_run
    rw [if_pos c1, if_pos c1]
    exact ⟨_, _, _, rfl, rfl, hu⟩
  by_cases c2 : (500 : Int32) < p
  · unfold rb_Model_run_I rb_House_run
    rw [if_neg c1, if_neg c1, if_pos c2, if_pos c2]
    exact ⟨_, _, _, rfl, rfl, hu⟩
  have h0 := h
  obtain ⟨_, _, _, _, rn, _⟩ := h0
  rcases rn with ⟨s1, s2, s3⟩ | rn
  · unfold rb_Model_run_I rb_House_run
    rw [if_neg c1, if_neg c1, if_neg c2, if_neg c2, if_neg (by rw [s1]; decide), if_neg (by rw [s2]; decide)]
    exact ⟨_, _, _, rfl, rfl, hu⟩
  have an := rn.an
  have a1 := an.1.1
  by_cases c3 : ¬ M.1 100 0 = 1
  · unfold rb_Model_run_I rb_House_run
    rw [if_neg c1, if_neg c1, if_neg c2, if_neg c2, if_neg c3, if_neg (by rw [← a1]; exact c3)]
    exact ⟨_, _, _, rfl, rfl, hu⟩
  have c3 : M.1 100 0 = 1 := Decidable.not_not.mp c3
  have n1' : ¬ p < 0 := fun w => c1 (Int32.lt_trans w (by decide))
  obtain ⟨r, rfl, hr⟩ := i32_nn n1'
  have r5 : r ≤ 500 := Decidable.byContradiction fun w => c2 ((nI_lt' (a := 500) (by omega) hr).mpr (by omega))
  obtain ⟨M0, T0, Sf, n1, n27, u, P, W, B, pa, bB, e3⟩ := rn
  have po := ru_pg (e3 0)
  obtain ⟨cx, hfw, hpg, hnU, h27, hn27, hin, h51, h6, _⟩ := id pa
  obtain ⟨cs, hcs⟩ : ∃ cs, 960082 ≤ cs := ⟨_, Nat.le_refl _⟩
  have hB : B + r * 6033 < 2 ^ 31 := by
    unfold bN at bB
    have : r * 6033 ≤ 500 * 6033 := Nat.mul_le_mul_right _ r5
    have : i * 3016500 ≤ 600 * 3016500 := Nat.mul_le_mul_right _ hi
    omega
  have go : ∀ K, ∃ c M' T', rl_Model_run_I_24 (RR nf (d + 1)) nf nf M (nI (0 + r)) (nI 0) = some (nI c, 0, M') ∧ rl_Machine_doSteps_2 (PP nf (d' + 1)) nf nf T (nI (0 + r)) (nI 0) = some (nI c, 0, T') ∧ (GoO M0 T0 Sf n1 (K + 1) P W (B + r * 6033) M' T' ∨ EnO M0 T0 P W M' T') := fun K => run_both (cs := cs) (d := d) (d' := d') cx hfw hpg hnU h27 hn27 (by omega) h51 h6 hnf hd hd' hcs r 0 nf K B M T (by
      have := e3 (K + r * (cs + 1))
      rw [show K + r * (cs + 1) + 1 = K + 1 + r * (cs + 1) by omega] at this
      exact this) (by omega) hB (by omega)
  obtain ⟨c, M', T', e1, e2, e4⟩ := go 0
  rw [Nat.zero_add] at e1 e2
  have all : ∀ K, GoO M0 T0 Sf n1 (K + 1) P W (B + r * 6033) M' T' ∨ EnO M0 T0 P W M' T' := fun K => by
    obtain ⟨c2, M2, T2, b1, b2, b3⟩ := go K
    rw [Nat.zero_add] at b1 b2
    rw [e1] at b1
    rw [e2] at b2
    injection b1 with b1
    injection b1 with _ b1
    injection b1 with _ b1
    injection b2 with b2
    injection b2 with _ b2
    injection b2 with _ b2
    subst b1
    subst b2
    exact b3
  refine ⟨nI c, M', T', ?_, ?_, h.rn (by omega) po (ru_pg (all 0)) ⟨M0, T0, Sf, n1, n27, u, P, W, B + r * 6033, pa, ?_, all⟩⟩
  · unfold rb_Model_run_I
    rw [if_neg c1, if_neg c2, if_pos c3]
    exact e1
  · unfold rb_House_run
    rw [if_neg c1, if_neg c2, if_pos (by rw [← a1]; exact c3), e_Machine_doSteps]
    unfold rb_Machine_doSteps
    have e2' : rl_Machine_doSteps_2 (PP nf (d' + 1)) nf nf T (nI r) 0 = some (nI c, 0, T') := e2
    rw [e2', bis]
  · unfold bN at bB ⊢
    have : r * 6033 ≤ 500 * 6033 := Nat.mul_le_mul_right _ r5
    rw [Nat.add_mul]
    omega
end SWP
