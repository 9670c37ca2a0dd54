/-! start, the reference */
-/
def bgR (T : gSt) : gSt := sI (sI (sI (sI (sI (sI (sI (sI (sI (sI T 143 0 0) 133 0 0) 134 0 0) 135 0 0) 136 0 0) 129 0 1) 100 0 1) 103 0 1) 114 0 0) 116 0 1
section SWF
variable {M T : gSt} {F : gF} {nf d n u P W : Nat}
theorem st_57 : ∀ (k i fl : Nat) (T : gSt), i + k = 4096 → k < fl → ∃ fl' T', rl_Model_start_57 F nf fl T (nI i) = rl_Model_start_57 F nf (fl' + 1) T' (nI 4096) ∧ (∀ g, g ≠ 138 → g ≠ 149 → T'.1 g = T.1 g) ∧ T'.2 = T.2 ∧ (∀ o, i ≤ o → o < 4096 → T'.1 138 o = 0 ∧ T'.1 149 o = if o + 1 = 4096 then -1 else nI (o + 1)) ∧ (∀ o, o < i → T'.1 138 o = T.1 138 o ∧ T'.1 149 o = T.1 149 o) := by
  intro k
  induction k with
  | zero =>
    intro i fl T hi hf
    obtain ⟨fl, rfl⟩ : ∃ k', fl = k' + 1 := ⟨fl - 1, by omega⟩
    have e : i = 4096 := by omega
    subst e
    exact ⟨fl, T, rfl, fun _ _ _ => rfl, rfl, fun o h1 h2 => by omega, fun _ _ => ⟨rfl, rfl⟩⟩
  | succ k ih =>
    intro i fl T hi hf
    obtain ⟨fl, rfl⟩ : ∃ k', fl = k' + 1 := ⟨fl - 1, by omega⟩
    have lt : ¬ (4096 : Int32) ≤ nI i := fun w => by
      have := (nI_leI (a := 4096) (b := i) (by omega) (by omega)).mp w
      omega
    have hc : (nI i).toNatClampNeg = i := nc (by omega)
    have hb : inb (nI i) 4096 := nin (by omega) (by omega)
    have e1 : nI i + 1 = nI (i + 1) := nI_1 i
    rw [rl_Model_start_57, if_neg lt]
    unfold gd stK vK
    dsimp only
    rw [if_pos hb, hc, e1]
    have key : ∀ x : Int32, (x = if i + 1 = 4096 then -1 else nI (i + 1)) → ∃ fl' T', rl_Model_start_57 F nf fl (sI (sI T 138 i 0) 149 i x) (nI (i + 1)) = rl_Model_start_57 F nf (fl' + 1) T' (nI 4096) ∧ (∀ g, g ≠ 138 → g ≠ 149 → T'.1 g = T.1 g) ∧ T'.2 = T.2 ∧ (∀ o, i ≤ o → o < 4096 → T'.1 138 o = 0 ∧ T'.1 149 o = if o + 1 = 4096 then -1 else nI (o + 1)) ∧ (∀ o, o < i → T'.1 138 o = T.1 138 o ∧ T'.1 149 o = T.1 149 o) := fun x hx => by
      obtain ⟨fl', T', a1, a2, a3, a4, a5⟩ := ih (i + 1) fl (sI (sI T 138 i 0) 149 i x) (by omega) (by omega)
      refine ⟨fl', T', a1, fun g g1 g2 => by rw [a2 g g1 g2, sI_ne g2, sI_ne g1], a3, fun o o1 o2 => ?_, fun o ho => ?_⟩
      · by_cases c : o = i
        · subst c
          obtain ⟨b1, b2⟩ := a5 o (by omega)
          rw [b1, b2, sI_ne (by omega), sI_v, sI_v, hx]
          exact ⟨rfl, rfl⟩
        · exact a4 o (by omega) o2
      · obtain ⟨b1, b2⟩ := a5 o (by omega)
        rw [b1, b2, sI_ne (by omega), rdI, rdI, if_neg (fun w => by have := w.2; omega), if_neg (fun w => by have := w.2; omega), sI_ne (by omega)]
        exact ⟨rfl, rfl⟩
    by_cases c : i + 1 = 4096
    · rw [if_pos (show (4096 : Int32) ≤ nI (i + 1) from (nI_leI (a := 4096) (b := i + 1) (by omega) (by omega)).mpr (by omega)), if_pos hb]
      exact key _ (by rw [if_pos c])
    · rw [if_neg (fun w => by have := (nI_leI (a := 4096) (b := i + 1) (by omega) (by omega)).mp w; omega), if_pos hb]
      exact key _ (by rw [if_neg c])
theorem x_start (h10 : ¬ M.1 10 0 = 0) (h11 : M.1 11 0 = nI n) (hn : n ≤ 24) (hu : ff (isFu M mnW) 0 n = nI u) (hu2 : u < n) (hP1 : 1 ≤ P) (hP : P ≤ 64) (hW1 : 4 ≤ W) (hW : W ≤ 64) (hnf : 5000 ≤ nf) : ∃ M1, rb_Model_start (RR nf (d + 1)) nf M (nI P) (nI W) = bi (RR nf (d + 1) 117 M1 [] []) (fun _ _ V => some (1, 0, V)) ∧ HbR P W M1 ∧ (∀ k, k ≤ 99 → M1.1 k = M.1 k) ∧ M1.2 = M.2 ∧ (M1.1 100 0 = 1 ∧ M1.1 103 0 = 1 ∧ M1.1 109 0 = 0 ∧ M1.1 123 0 = 0 ∧ M1.1 102 0 = M.1 36 u ∧ M1.1 116 0 = 1 ∧ M1.1 150 0 = 0 ∧ M1.1 101 0 = 0 ∧ M1.1 104 0 = 0 ∧ M1.1 106 0 = 0 ∧ M1.1 107 0 = 0) ∧ M1.1 115 = M.1 115 := by
  have i1 : ¬ nI P < 1 := fun w => by have := (nI_ltI (a := P) (b := 1) (by omega) (by omega)).mp w; omega
  have i2 : ¬ (64 : Int32) < nI P := fun w => by have := (nI_ltI (a := 64) (b := P) (by omega) (by omega)).mp w; omega
  have i3 : ¬ nI W < 4 := fun w => by have := (nI_ltI (a := W) (b := 4) (by omega) (by omega)).mp w; omega
  have i4 : nI W ≤ (64 : Int32) := (nI_leI (a := W) (b := 64) (by omega) (by omega)).mpr hW
  unfold rb_Model_start
  rw [if_neg h10, if_neg i1, if_neg i2, if_neg i3, if_pos i4, x_stp, bis]
  unfold stK
  obtain ⟨fl, T, a1, a2, a3, a4, _⟩ := st_57 (F := RR nf (d + 1)) (nf := nf) 4096 0 nf (sI (sI (sI (sI (stpS M) 130 0 (nI P)) 131 0 (nI W)) 132 0 (nI P)) 137 0 0) (by omega) (by omega)
  dsimp only
  have a1' : rl_Model_start_57 (RR nf (d + 1)) nf nf (sI (sI (sI (sI (stpS M) 130 0 (nI P)) 131 0 (nI W)) 132 0 (nI P)) 137 0 0) 0 = rl_Model_start_57 (RR nf (d + 1)) nf (fl + 1) T (nI 4096) := a1
  rw [a1', rl_Model_start_57, if_pos (show (4096 : Int32) ≤ nI 4096 from Int32.le_refl _)]
  have b4 : inb (0 : Int32) 400 := (nin (by omega) (by omega) : inb (nI 0) 400)
  have b41 : inb (0 : Int32) 41 := (nin (by omega) (by omega) : inb (nI 0) 41)
  have c0 : (0 : Int32).toNatClampNeg = 0 := rfl
  unfold stK gd
  dsimp only
  rw [e_Model_begin]
  unfold rb_Model_begin stK gd
  dsimp only
  rw [if_pos b4, if_pos b4, if_pos b4, if_pos b4, bis, if_pos b41, if_pos b41, c0, e_Model_packed]
  unfold rb_Model_packed
  have o : ∀ g, g ≠ 143 → ¬ (133 ≤ g ∧ g ≤ 136) → g ≠ 129 → g ≠ 100 → g ≠ 103 → g ≠ 114 → g ≠ 116 → (bgR T).1 g = T.1 g := fun g g1 g2 g3 g4 g5 g6 g7 => by unfold bgR; rw [sI_ne g7, sI_ne g6, sI_ne g5, sI_ne g4, sI_ne g3, sI_ne (by omega), sI_ne (by omega), sI_ne (by omega), sI_ne (by omega), sI_ne g1]
  have oT : ∀ g, g ≠ 138 → g ≠ 149 → g ≠ 130 → g ≠ 131 → g ≠ 132 → g ≠ 137 → T.1 g = (stpS M).1 g := fun g g1 g2 g3 g4 g5 g6 => by rw [a2 g g1 g2, sI_ne g6, sI_ne g5, sI_ne g4, sI_ne g3]
  have oS : ∀ g, g ≤ 99 → (stpS M).1 g = M.1 g := fun g hg => by
    unfold stpS
    rw [sI_ne (by omega), sI_ne (by omega), sI_ne (by omega), sI_ne (by omega), sI_ne (by omega), sI_ne (by omega), sI_ne (by omega), sI_ne (by omega), sI_ne (by omega), sI_ne (by omega), sI_ne (by omega), sI_ne (by omega), sI_ne (by omega), sI_ne (by omega)]
  have oA : ∀ g, g ≤ 99 → (bgR T).1 g = M.1 g := fun g hg => by rw [o g (by omega) (by omega) (by omega) (by omega) (by omega) (by omega) (by omega), oT g (by omega) (by omega) (by omega) (by omega) (by omega) (by omega), oS g hg]
  have o2 : (bgR T).2 = M.2 := a3
  have eB : bgR T = sI (sI (sI (sI (sI (sI (sI (sI (sI (sI T 143 0 0) 133 0 0) 134 0 0) 135 0 0) 136 0 0) 129 0 1) 100 0 1) 103 0 1) 114 0 0) 116 0 1 := rfl
  rw [← eB, bis, x_fun (n := n) (by rw [oA 11 (by omega)]; exact h11) hn hnf, bis]
  have ef : isFu (bgR T) (pks (nI 32).toNatClampNeg (s_len.getD (nI 32).toNatClampNeg 0)) = isFu M mnW := by
    rw [show (nI 32).toNatClampNeg = 32 from nc (by omega)]
    show isFu (bgR T) mnW = isFu M mnW
    funext q
    unfold isFu
    rw [oA 12 (by omega), o2]
  rw [ef, hu, if_pos (nin (by omega) (by omega)), nc (by omega), oA 36 (by omega)]
  have p : ∀ g, g ≠ 102 → (sI (bgR T) 102 0 (M.1 36 u)).1 g = (bgR T).1 g := fun g hg => sI_ne hg
  refine ⟨sI (bgR T) 102 0 (M.1 36 u), rfl, ⟨?_, ?_, ?_, ?_, ?_, ?_, ?_, fun k k1 k2 => ?_, fun q hq => ?_, fun q hq => ?_⟩, fun k hk => by rw [p k (by omega), oA k hk], o2, ⟨?_, ?_, ?_, ?_, by rw [sI_v], ?_, ?_, ?_, ?_, ?_, ?_⟩, ?_⟩
  · rfl
  · show T.1 130 0 = nI P
    rw [a2 130 (by omega) (by omega)]
    rfl
  · show T.1 131 0 = nI W
    rw [a2 131 (by omega) (by omega)]
    rfl
  · show T.1 132 0 = nI P
    rw [a2 132 (by omega) (by omega)]
    rfl
  · show T.1 137 0 = 0
    rw [a2 137 (by omega) (by omega)]
    rfl
  · show T.1 105 0 = 0
    rw [a2 105 (by omega) (by omega)]
    rfl
  · rfl
  · obtain w | w | w | w : k = 133 ∨ k = 134 ∨ k = 135 ∨ k = 136 := by omega
    all_goals subst w; rfl
  · show T.1 138 q = 0
    exact (a4 q (by omega) hq).1
  · show T.1 149 q = _
    exact (a4 q (by omega) hq).2
  · rfl
  · rfl
  · show T.1 109 0 = 0
    rw [a2 109 (by omega) (by omega)]
    rfl
  · show T.1 123 0 = 0
    rw [a2 123 (by omega) (by omega)]
    rfl
  · rfl
  · show T.1 150 0 = 0
    rw [a2 150 (by omega) (by omega)]
    rfl
  · show T.1 101 0 = 0
    rw [a2 101 (by omega) (by omega)]
    rfl
  · show T.1 104 0 = 0
    rw [a2 104 (by omega) (by omega)]
    rfl
  · show T.1 106 0 = 0
    rw [a2 106 (by omega) (by omega)]
    rfl
  · show T.1 107 0 = 0
    rw [a2 107 (by omega) (by omega)]
    rfl
  · rw [p 115 (by omega), o 115 (by omega) (by omega) (by omega) (by omega) (by omega) (by omega) (by omega), oT 115 (by omega) (by omega) (by omega) (by omega) (by omega) (by omega)]
    unfold stpS
    rw [sI_ne (by omega), sI_ne (by omega), sI_ne (by omega), sI_ne (by omega), sI_ne (by omega), sI_ne (by omega), sI_ne (by omega), sI_ne (by omega), sI_ne (by omega), sI_ne (by omega), sI_ne (by omega), sI_ne (by omega), sI_ne (by omega), sI_ne (by omega)]
end SWF
