/-! between calls: what holds of both */
-/
/-- no run */
-/
def StpI (M T : gSt) : Prop := M.1 100 0 = 0 ∧ T.1 106 0 = 0 ∧ ∀ k, k = 101 ∨ (103 ≤ k ∧ k ≤ 107) ∨ k = 129 ∨ k = 130 ∨ k = 132 ∨ k = 150 → M.1 k 0 = 0
/-- a run, i calls done */
-/
def bN (i : Nat) : Nat := 241320 + i * 3016500
def RnI (i : Nat) (M T : gSt) : Prop := ∃ M0 T0 Sf n1 n27 u P W B, PgA M0 T0 Sf n1 n27 u ∧ B ≤ bN i ∧ ∀ K, GoO M0 T0 Sf n1 (K + 1) P W B M T ∨ EnO M0 T0 P W M T
def CoX (M T : gSt) : Prop := ∀ q, q < 40 → M.1 115 q = T.1 101 (17 * (q + 1) + 2)
def PrI (M T : gSt) : Prop := (M.1 10 0 = 0 ∧ T.1 3 0 = 0) ∨ (M.1 10 0 = 1 ∧ T.1 3 0 = 1 ∧ PgB M T ∧ ∃ M0 T0 Sf n1 n27 u, PgA M0 T0 Sf n1 n27 u ∧ PgO M0 T0 M T)
def FlI (M T : gSt) : Prop := (M.1 9 0 = 0 ∧ T.1 2 0 = 0) ∨ (M.1 9 0 = 1 ∧ T.1 2 0 = 1 ∧ M.1 7 0 = T.1 53 0 ∧ M.1 8 0 = T.1 54 0)
def Inv (i : Nat) (M T : gSt) : Prop := (∃ z, M.1 1 0 = nI z ∧ CbP T z ∧ EW T ≤ i ∧ T.1 0 = M.1 0) ∧ (Ri M ∧ I78 M ∧ I54 T) ∧ FlI M T ∧ PrI M T ∧ (StpI M T ∨ RnI i M T) ∧ CoX M T
section SWN
variable {M T M' T' : gSt} {i nf d d' : Nat} {p q : Int32} {F F' : gF}
theorem bN_mo {j : Nat} (h : i ≤ j) : bN i ≤ bN j := Nat.add_le_add_left (Nat.mul_le_mul_right _ h) _
theorem RnI.up {j : Nat} (h : RnI i M T) (hj : i ≤ j) : RnI j M T := by
  obtain ⟨M0, T0, Sf, n1, n27, u, P, W, B, a1, a2, a3⟩ := h
  exact ⟨M0, T0, Sf, n1, n27, u, P, W, B, a1, Nat.le_trans a2 (bN_mo hj), a3⟩
theorem Inv.up {j : Nat} (h : Inv i M T) (hj : i ≤ j) : Inv j M T := by
  obtain ⟨⟨z, z1, z2, z3, z4⟩, h2, h3, h4, h5, h6⟩ := h
  exact ⟨⟨z, z1, z2, by omega, z4⟩, h2, h3, h4, h5.imp id (fun w => w.up hj), h6⟩
theorem RnI.an (h : RnI i M T) : AnO M T := by
  obtain ⟨M0, T0, Sf, n1, n27, u, P, W, B, a1, a2, a3⟩ := h
  rcases a3 0 with g | g
  · exact an_go a1.2.2.2.2.2.2.2.1 a1.2.2.2.2.2.2.2.2.1 g
  · exact an_en g
theorem v_state (h : Inv i M T) (hd : 3 ≤ d') : ∃ r, rb_Model_state (RR nf d) nf M p = some (r, 0, M) ∧ rb_House_state (PP nf d') nf T p = some (r, 0, T) := by
  rcases h.2.2.2.2.1 with ⟨a1, a2, a3⟩ | h
  · obtain ⟨d1, rfl⟩ : ∃ g, d' = g + 1 := ⟨d' - 1, by omega⟩
    unfold rb_Model_state rb_House_state
    rw [a1, a2]
    by_cases c0 : p = 0
    · rw [if_pos c0, if_pos c0]
      exact ⟨_, rfl, rfl⟩
    rw [if_neg c0, if_neg c0]
    by_cases c1 : p = 1
    · rw [if_pos c1, if_pos c1]
      exact ⟨0, rfl, rfl⟩
    rw [if_neg c1, if_neg c1]
    by_cases c2 : p = 2
    · rw [if_pos c2, if_pos c2, e_Machine_placeOfStep]
      unfold rb_Machine_placeOfStep
      rw [a2]
      exact ⟨-1, rfl, rfl⟩
    rw [if_neg c2, if_neg c2]
    exact ⟨_, rfl, rfl⟩
  · exact a_state h.an hd
theorem v_world (h : Inv i M T) (hd : 3 ≤ d') : ∃ r, rb_Model_world (RR nf d) nf M p = some (r, 0, M) ∧ rb_House_world (PP nf d') nf T p = some (r, 0, T) := by
  rcases h.2.2.2.2.1 with ⟨a1, a2, a3⟩ | h
  · unfold rb_Model_world rb_House_world
    rw [a2, a3 101 (by omega), a3 130 (by omega), a3 132 (by omega), a3 129 (by omega), a3 103 (by omega), a3 104 (by omega), a3 105 (by omega), a3 150 (by omega), a3 106 (by omega), a3 107 (by omega)]
    by_cases c0 : p = 0
    · subst c0
      exact ⟨0, rfl, rfl⟩
    rw [if_neg c0]
    by_cases c1 : p = 1
    · subst c1
      exact ⟨0, rfl, rfl⟩
    rw [if_neg c1]
    by_cases c2 : p = 2
    · subst c2
      exact ⟨0, rfl, rfl⟩
    rw [if_neg c2]
    by_cases c3 : p = 3
    · subst c3
      exact ⟨0, rfl, rfl⟩
    rw [if_neg c3]
    by_cases c4 : p = 4
    · subst c4
      exact ⟨0, rfl, rfl⟩
    rw [if_neg c4]
    by_cases c5 : p = 5
    · subst c5
      exact ⟨0, rfl, rfl⟩
    rw [if_neg c5]
    by_cases c6 : p = 6
    · subst c6
      exact ⟨0, rfl, rfl⟩
    rw [if_neg c6]
    by_cases c7 : p = 7
    · subst c7
      exact ⟨0, rfl, rfl⟩
    rw [if_neg c7]
    by_cases c8 : p = 8
    · subst c8
      exact ⟨0, rfl, rfl⟩
    rw [if_neg c8]
    refine ⟨_, rfl, ?_⟩
    by_cases n : p < 0
    · rw [if_pos n]
    · rw [if_neg n, if_neg]
      intro w
      obtain ⟨j, rfl, hj⟩ := i32_nn n
      have j8 : j ≤ 8 := by
        have e : (8 : Int32) = Int32.ofNat 8 := rfl
        have := Int32.le_iff_toInt_le.mp w
        rw [show nI j = Int32.ofNat j from rfl, Int32.toInt_ofNat_of_lt (by omega), e, Int32.toInt_ofNat_of_lt (by omega)] at this
        omega
      obtain z | z | z | z | z | z | z | z | z : j = 0 ∨ j = 1 ∨ j = 2 ∨ j = 3 ∨ j = 4 ∨ j = 5 ∨ j = 6 ∨ j = 7 ∨ j = 8 := by omega
      all_goals subst z
      · exact c0 rfl
      · exact c1 rfl
      · exact c2 rfl
      · exact c3 rfl
      · exact c4 rfl
      · exact c5 rfl
      · exact c6 rfl
      · exact c7 rfl
      · exact c8 rfl
  · exact a_world h.an hd
theorem v_region (h : Inv i M T) (hd : 3 ≤ d') : ∃ r, rb_Model_region (RR nf d) nf M p q = some (r, 0, M) ∧ rb_House_region (PP nf d') nf T p q = some (r, 0, T) := by
  rcases h.2.2.2.2.1 with ⟨a1, a2, a3⟩ | h
  · unfold rb_Model_region rb_House_region
    rw [if_pos a2, a3 129 (by omega)]
    refine ⟨-1, ?_, rfl⟩
    by_cases c : p < 0
    · rw [if_pos c]
    · rw [if_neg c, if_pos (Int32.not_lt.mp c)]
  · exact a_region h.an hd
theorem v_printed (h : Inv i M T) (hd : 3 ≤ d') : ∃ r, rb_Model_printed (RR nf d) nf M p = some (r, 0, M) ∧ rb_House_printed (PP nf d') nf T p = some (r, 0, T) := by
  rcases h.2.2.2.2.1 with ⟨a1, a2, a3⟩ | h
  · unfold rb_Model_printed rb_House_printed
    rw [if_pos a2, a3 104 (by omega)]
    refine ⟨0, ?_, rfl⟩
    by_cases c : p < 0
    · rw [if_pos c]
    · rw [if_neg c, if_pos (Int32.not_lt.mp c)]
  · exact a_printed h.an hd
theorem v_program (h : Inv i M T) (hnf : 30 ≤ nf) : ∃ r, rb_Model_program_I F nf M p = some (r, 0, M) ∧ rb_House_program F' nf T p = some (r, 0, T) := by
  rcases h.2.2.2.1 with w | ⟨w1, w2, w3, _⟩
  · exact a_program (Or.inl w) hnf
  · exact a_program (Or.inr ⟨w1, w2, w3⟩) hnf
theorem v_fault (h : Inv i M T) : ∃ r, rb_Model_fault F nf M p = some (r, 0, M) ∧ rb_House_fault F' nf T p = some (r, 0, T) := by
  unfold rb_Model_fault rb_House_fault
  rcases h.2.2.1 with ⟨w1, w2⟩ | ⟨w1, w2, w3, w4⟩
  · rw [if_pos w1, if_pos w2]
    exact ⟨_, rfl, rfl⟩
  · rw [if_neg (show ¬ M.1 9 0 = 0 by rw [w1]; decide), if_neg (show ¬ T.1 2 0 = 0 by rw [w2]; decide), w3, w4]
    by_cases c0 : p = 0
    · subst c0
      exact ⟨_, rfl, rfl⟩
    by_cases c1 : p = 1
    · subst c1
      exact ⟨_, rfl, rfl⟩
    rw [if_neg c0, if_neg c1]
    refine ⟨_, rfl, ?_⟩
    by_cases n : p < 0
    · rw [if_pos n]
    · rw [if_neg n, if_neg]
      intro w
      obtain ⟨j, rfl, hj⟩ := i32_nn n
      have j8 : j ≤ 1 := by
        have e : (1 : Int32) = Int32.ofNat 1 := rfl
        have := Int32.le_iff_toInt_le.mp w
        rw [show nI j = Int32.ofNat j from rfl, Int32.toInt_ofNat_of_lt (by omega), e, Int32.toInt_ofNat_of_lt (by omega)] at this
        omega
      obtain z | z : j = 0 ∨ j = 1 := by omega
      all_goals subst z
      · exact c0 rfl
      · exact c1 rfl
end SWN
