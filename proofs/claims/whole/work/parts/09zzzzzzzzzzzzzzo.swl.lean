/-! answers while there is a run */
-/
section SWL
variable {M T : gSt} {nf d d' : Nat} {p q : Int32}
theorem i32_nn (h : ¬ p < 0) : ∃ j, p = nI j ∧ j < 2 ^ 31 := by
  have h0 : 0 ≤ p.toInt := by
    have := Int32.lt_iff_toInt_lt (x := p) (y := 0)
    rw [this] at h
    have e : (0 : Int32).toInt = 0 := rfl
    omega
  have h1 := p.toInt_lt
  refine ⟨p.toInt.toNat, ?_, by omega⟩
  apply Int32.toInt_inj.mp
  rw [show nI p.toInt.toNat = Int32.ofNat p.toInt.toNat from rfl, Int32.toInt_ofNat_of_lt (by omega)]
  omega
theorem a_state (h : AnO M T) (hd : 3 ≤ d') : ∃ r, rb_Model_state (RR nf d) nf M p = some (r, 0, M) ∧ rb_House_state (PP nf d') nf T p = some (r, 0, T) := by
  obtain ⟨⟨a1, a2, a3⟩, _, _, _, _, _, pl1, pl2⟩ := h
  unfold rb_Model_state rb_House_state
  by_cases c0 : p = 0
  · rw [if_pos c0, if_pos c0, a1]
    exact ⟨_, rfl, rfl⟩
  rw [if_neg c0, if_neg c0]
  by_cases c1 : p = 1
  · rw [if_pos c1, if_pos c1, ← a1]
    by_cases c3 : M.1 100 0 = 3
    · rw [if_pos c3, if_pos c3, a3 c3]
      exact ⟨_, rfl, rfl⟩
    · rw [if_neg c3, if_neg c3]
      exact ⟨_, rfl, rfl⟩
  rw [if_neg c1, if_neg c1]
  by_cases c2 : p = 2
  · obtain ⟨d1, rfl⟩ : ∃ g, d' = g + 1 := ⟨d' - 1, by omega⟩
    rw [if_pos c2, if_pos c2, if_neg a2, e_Machine_placeOfStep]
    unfold rb_Machine_placeOfStep
    rw [← a1]
    by_cases z1 : M.1 100 0 = 1
    · obtain ⟨n, m, c, x1, x2, x3, x4, x5, x6, x7⟩ := pl1 z1
      rw [if_neg (by rw [z1]; decide), if_pos z1, if_pos z1, x3, (c_row x4 x5 x6 (by omega)).2.1, bis, bis, x1, gd, if_pos (nin (by omega) (by omega)), nc (by omega), x7]
      exact ⟨_, rfl, rfl⟩
    · by_cases z2 : M.1 100 0 = 2
      · rw [if_pos z2, if_neg z1, if_neg a2, if_pos z2, bis]
        exact ⟨_, rfl, rfl⟩
      · obtain ⟨e, x1, x2, x3, x4⟩ := pl2 z1 z2
        rw [if_neg z2, if_neg z1, if_neg z1, if_neg a2, if_neg z2, show (2 : Int32) = nI 2 from rfl, c_frame x2 (by omega) (by omega) (by omega), bis, bis, x1, nI_sub, gd, if_pos (nin (by omega) (by omega)), nc (by omega), x4]
        exact ⟨_, rfl, rfl⟩
  rw [if_neg c2, if_neg c2]
  exact ⟨_, rfl, rfl⟩
theorem a_world (h : AnO M T) (hd : 3 ≤ d') : ∃ r, rb_Model_world (RR nf d) nf M p = some (r, 0, M) ∧ rb_House_world (PP nf d') nf T p = some (r, 0, T) := by
  obtain ⟨⟨a1, a2, a3⟩, ⟨k1, r1, r2, h3, p4, r5, i6, e7, s8⟩, _⟩ := h
  obtain ⟨d1, rfl⟩ : ∃ g, d' = g + 2 := ⟨d' - 2, by omega⟩
  have n6 : ¬ T.1 106 0 = 0 := by rw [← a1]; exact a2
  unfold rb_Model_world rb_House_world
  by_cases c0 : p = 0
  · subst c0
    rw [if_pos rfl, if_neg (by decide), if_pos (by decide), if_neg n6, e_Machine_tell]
    unfold rb_Machine_tell
    rw [if_pos rfl]
    refine ⟨_, rfl, ?_⟩
    rw [k1]
    rfl
  rw [if_neg c0]
  by_cases c1 : p = 1
  · subst c1
    rw [if_pos rfl, if_neg (by decide), if_pos (by decide), if_neg n6, e_Machine_tell]
    unfold rb_Machine_tell
    rw [if_neg (by decide), if_pos rfl]
    refine ⟨_, rfl, ?_⟩
    rw [r1]
    rfl
  rw [if_neg c1]
  by_cases c2 : p = 2
  · subst c2
    rw [if_pos rfl, if_neg (by decide), if_pos (by decide), if_neg n6, e_Machine_tell]
    unfold rb_Machine_tell
    rw [if_neg (by decide), if_neg (by decide), if_pos rfl]
    refine ⟨_, rfl, ?_⟩
    rw [r2]
    rfl
  rw [if_neg c2]
  by_cases c3 : p = 3
  · subst c3
    rw [if_pos rfl, if_neg (by decide), if_pos (by decide), if_neg n6, e_Machine_tell]
    unfold rb_Machine_tell
    rw [if_neg (by decide), if_neg (by decide), if_neg (by decide), if_pos rfl]
    refine ⟨_, rfl, ?_⟩
    rw [h3]
    rfl
  rw [if_neg c3]
  by_cases c4 : p = 4
  · subst c4
    rw [if_pos rfl, if_neg (by decide), if_pos (by decide), if_neg n6, e_Machine_tell]
    unfold rb_Machine_tell
    rw [if_neg (by decide), if_neg (by decide), if_neg (by decide), if_neg (by decide), if_pos rfl]
    refine ⟨_, rfl, ?_⟩
    rw [p4]
    rfl
  rw [if_neg c4]
  by_cases c5 : p = 5
  · subst c5
    rw [if_pos rfl, if_neg (by decide), if_pos (by decide), if_neg n6, e_Machine_tell]
    unfold rb_Machine_tell
    rw [if_neg (by decide), if_neg (by decide), if_neg (by decide), if_neg (by decide), if_neg (by decide), if_pos rfl]
    refine ⟨_, rfl, ?_⟩
    rw [r5]
    rfl
  rw [if_neg c5]
  by_cases c6 : p = 6
  · subst c6
    rw [if_pos rfl, if_neg (by decide), if_pos (by decide), if_neg n6, e_Machine_tell]
    unfold rb_Machine_tell
    rw [if_neg (by decide), if_neg (by decide), if_neg (by decide), if_neg (by decide), if_neg (by decide), if_neg (by decide), if_pos rfl]
    refine ⟨_, rfl, ?_⟩
    rw [i6]
    rfl
  rw [if_neg c6]
  by_cases c7 : p = 7
  · subst c7
    rw [if_pos rfl, if_neg (by decide), if_pos (by decide), if_neg n6, e_Machine_tell]
    unfold rb_Machine_tell
    rw [if_neg (by decide), if_neg (by decide), if_neg (by decide), if_neg (by decide), if_neg (by decide), if_neg (by decide), if_neg (by decide), if_pos rfl]
    refine ⟨_, rfl, ?_⟩
    rw [e7]
    rfl
  rw [if_neg c7]
  by_cases c8 : p = 8
  · subst c8
    rw [if_pos rfl, if_neg (by decide), if_pos (by decide), if_neg n6, e_Machine_tell]
    unfold rb_Machine_tell
    rw [if_neg (by decide), if_neg (by decide), if_neg (by decide), if_neg (by decide), if_neg (by decide), if_neg (by decide), if_neg (by decide), if_neg (by decide), e_Memory_strayTouches]
    refine ⟨_, rfl, ?_⟩
    rw [s8]
    rfl
  rw [if_neg c8]
  refine ⟨_, rfl, ?_⟩
  by_cases n : p < 0
  · rw [if_pos n]
  · rw [if_neg n, if_neg]
    intro w
    obtain ⟨j, rfl, hj⟩ := i32_nn n
    have j8 : j ≤ 8 := by
      have e : (8 : Int32) = Int32.ofNat 8 := rfl
      have := Int32.le_iff_toInt_le.mp w
      rw [show nI j = Int32.ofNat j from rfl, Int32.toInt_ofNat_of_lt (by omega), e, Int32.toInt_ofNat_of_lt (by omega)] at this
      omega
    obtain z | z | z | z | z | z | z | z | z : j = 0 ∨ j = 1 ∨ j = 2 ∨ j = 3 ∨ j = 4 ∨ j = 5 ∨ j = 6 ∨ j = 7 ∨ j = 8 := by omega
    all_goals subst z
    · exact c0 rfl
    · exact c1 rfl
    · exact c2 rfl
    · exact c3 rfl
    · exact c4 rfl
    · exact c5 rfl
    · exact c6 rfl
    · exact c7 rfl
    · exact c8 rfl
theorem a_region (h : AnO M T) (hd : 3 ≤ d') : ∃ r, rb_Model_region (RR nf d) nf M p q = some (r, 0, M) ∧ rb_House_region (PP nf d') nf T p q = some (r, 0, T) := by
  obtain ⟨⟨a1, a2, a3⟩, ⟨_, _, r2, _⟩, ⟨na, n1, n2, n3⟩, _⟩ := h
  obtain ⟨d1, rfl⟩ : ∃ g, d' = g + 2 := ⟨d' - 2, by omega⟩
  have n6 : ¬ T.1 106 0 = 0 := by rw [← a1]; exact a2
  unfold rb_Model_region rb_House_region
  rw [if_neg n6, e_Memory_tellRegion]
  unfold rb_Memory_tellRegion
  rw [← r2, n1]
  by_cases c : p < 0
  · rw [if_pos c, if_pos c]
    exact ⟨_, rfl, rfl⟩
  rw [if_neg c, if_neg c]
  by_cases c1 : nI na ≤ p
  · rw [if_pos c1, if_neg (Int32.not_lt.mpr c1)]
    exact ⟨_, rfl, rfl⟩
  rw [if_neg c1, if_pos (Int32.not_le.mp c1)]
  obtain ⟨j, rfl, hj⟩ := i32_nn c
  have hjn : j < na := by
    have := Int32.lt_iff_toInt_lt.mp (Int32.not_le.mp c1)
    rw [show nI j = Int32.ofNat j from rfl, Int32.toInt_ofNat_of_lt (by omega), show nI na = Int32.ofNat na from rfl, Int32.toInt_ofNat_of_lt (by omega)] at this
    omega
  obtain ⟨v1, v2, v3⟩ := n3 j hjn
  have b1 : inb (nI j) 400 := nin (by omega) (by omega)
  have b2 : inb (nI j) 321 := nin (by omega) (by omega)
  have cj : (nI j).toNatClampNeg = j := nc (by omega)
  unfold gd
  rw [if_pos b1, if_pos b1, if_pos b1, if_pos b2, if_pos b2, if_pos b2, cj, v1, v2, v3]
  by_cases q0 : q = 0
  · subst q0
    exact ⟨_, rfl, rfl⟩
  by_cases q1 : q = 1
  · subst q1
    exact ⟨_, rfl, rfl⟩
  by_cases q2 : q = 2
  · subst q2
    exact ⟨_, rfl, rfl⟩
  rw [if_neg q0, if_neg q1, if_neg q0, if_neg q1, if_neg q2]
  refine ⟨_, ?_, rfl⟩
  by_cases n : q < 0
  · rw [if_pos n]
  · rw [if_neg n, if_neg]
    intro w
    obtain ⟨i, rfl, hi⟩ := i32_nn n
    have j8 : i ≤ 2 := by
      have e : (2 : Int32) = Int32.ofNat 2 := rfl
      have := Int32.le_iff_toInt_le.mp w
      rw [show nI i = Int32.ofNat i from rfl, Int32.toInt_ofNat_of_lt (by omega), e, Int32.toInt_ofNat_of_lt (by omega)] at this
      omega
    obtain z | z | z : i = 0 ∨ i = 1 ∨ i = 2 := by omega
    all_goals subst z
    · exact q0 rfl
    · exact q1 rfl
    · exact q2 rfl
theorem a_printed (h : AnO M T) (hd : 3 ≤ d') : ∃ r, rb_Model_printed (RR nf d) nf M p = some (r, 0, M) ∧ rb_House_printed (PP nf d') nf T p = some (r, 0, T) := by
  obtain ⟨⟨a1, a2, a3⟩, ⟨_, _, _, _, p4, _⟩, _, ⟨pp, n1, n2, n3⟩, _⟩ := h
  obtain ⟨d1, rfl⟩ : ∃ g, d' = g + 2 := ⟨d' - 2, by omega⟩
  have n6 : ¬ T.1 106 0 = 0 := by rw [← a1]; exact a2
  unfold rb_Model_printed rb_House_printed
  rw [if_neg n6, e_Machine_printedAt]
  unfold rb_Machine_printedAt
  rw [← p4, n1]
  by_cases c : p < 0
  · rw [if_pos c, if_pos c]
    exact ⟨_, rfl, rfl⟩
  rw [if_neg c, if_neg c]
  by_cases c1 : nI pp ≤ p
  · rw [if_pos c1, if_pos c1]
    exact ⟨_, rfl, rfl⟩
  rw [if_neg c1, if_neg c1]
  by_cases c2 : p < 300
  · rw [if_pos c2, if_pos c2]
    obtain ⟨j, rfl, hj⟩ := i32_nn c
    have hjn : j < pp := by
      have := Int32.lt_iff_toInt_lt.mp (Int32.not_le.mp c1)
      rw [show nI j = Int32.ofNat j from rfl, Int32.toInt_ofNat_of_lt (by omega), show nI pp = Int32.ofNat pp from rfl, Int32.toInt_ofNat_of_lt (by omega)] at this
      omega
    have hj3 : j < 300 := by
      have e : (300 : Int32) = Int32.ofNat 300 := rfl
      have := Int32.lt_iff_toInt_lt.mp c2
      rw [show nI j = Int32.ofNat j from rfl, Int32.toInt_ofNat_of_lt (by omega), e, Int32.toInt_ofNat_of_lt (by omega)] at this
      omega
    unfold gd
    rw [if_pos (nin (by omega) (by omega)), if_pos (nin (by omega) (by omega)), nc (by omega), n3 j hjn hj3]
    exact ⟨_, rfl, rfl⟩
  · rw [if_neg c2, if_neg c2]
    exact ⟨_, rfl, rfl⟩
end SWL
