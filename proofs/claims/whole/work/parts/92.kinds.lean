theorem cL_g {x : Int32} (h : cL x) : ¬ cG x ↔ ¬ (¬ cD x ∧ ((1 : Int32) = 0 ∨ ¬ cS x)) := by
  have e : ¬ (1 : Int32) = 0 := by decide
  simp only [cL, cG, cD, cS, i_le, Int32.reduceToInt, e, false_or] at h ⊢
  omega
theorem bad_sml {f : Nat → Int32} {a n : Nat} (h : ∀ j, j < n → cL (f (a + j))) (hn : n < 2 ^ 31) : ff (bad1 f a 1) 0 n = -1 ↔ ¬ sml f a n = 0 := by
  rw [ff_all (by omega), sml_iff]
  refine ⟨fun z j hj => (cL_g (h j hj)).mpr (fun y => z j (Nat.zero_le j) (by omega) (decide_eq_true y)), fun z j _ hj y => (cL_g (h j (by omega))).mp (z j (by omega)) (of_decide_eq_true y)⟩
theorem nI_is1 {n : Nat} (h : n < 2 ^ 31) : nI n = 1 ↔ n = 1 := ⟨fun z => nI_e h (by decide) z, fun z => congrArg nI z⟩
theorem nI_is0 {n : Nat} (h : n < 2 ^ 31) : nI n ≤ 0 ↔ n = 0 := ⟨fun z => by have := (ni_le (a := n) (b := 0) h (by decide)).1 z; omega, fun z => by subst z; decide⟩
theorem nI_is9 {n : Nat} (h : n < 2 ^ 31) : 9 ≤ nI n ↔ 9 ≤ n := ⟨fun z => (ni_le (a := 9) (b := n) (by decide) h).1 z, fun z => nI_le (a := 9) z h⟩
/-- a REGION is one on both sides -/
theorem sort_reg {f : Nat → Int32} {tz q : Nat} (hz : tz ≤ 4000) (hq : q < tz) (h39 : f q = 39) : tSort f tz q = if kReg f (q + 1) (sN f tz q) = 4 then 4 else 0 := by
  have hF : tFR f q = q + 1 := if_pos h39
  have hN : tN f tz q = sN f tz q := by unfold tN sN; rw [hF]
  have hle : sN f tz q ≤ tz - (q + 1) := rl_le
  have hbs := bad_sml (f := f) (a := q + 1) (n := sN f tz q) (fun j h => rl_all h) (by omega)
  unfold tSort
  rw [if_neg (by omega), if_pos (Or.inr h39), if_pos h39, hN, hF]
  generalize sN f tz q = n at *
  have e1 := nI_is1 (n := n) (by omega)
  have e2 := nI_is0 (n := n) (by omega)
  have e3 := nI_is9 (n := n) (by omega)
  have k1 : ¬ (1 : Int32) = 0 := by decide
  have k4 : ¬ (1 : Int32) = 4 := by decide
  rcases Nat.eq_zero_or_pos n with h0 | h0
  · subst h0
    simp [srt, kReg, e1, e2, k1, k4]
  · rw [if_pos (nI_lt (show q + 1 < tz by omega) (by omega))]
    simp only [srt, kReg, e1, e2, e3, hbs, if_neg k1, if_neg (show ¬ n = 0 by omega)]
    rcases (show (n ≤ 8 ∧ ¬ 9 ≤ n) ∨ (9 ≤ n ∧ ¬ n ≤ 8) by omega) with ⟨c3, c6⟩ | ⟨c3, c6⟩ <;> by_cases c1 : n = 1 <;> by_cases c2 : f (q + 1) = 72 <;> by_cases c4 : sml f (q + 1) n = 0 <;> by_cases c5 : cS (f (q + 1)) <;> simp only [c1, c2, c3, c4, c5, c6, h0, if_true, if_false, and_true, true_and, and_false, false_and, not_true_eq_false, not_false_eq_true, and_self] <;> first | rfl | decide | (subst_vars; omega) | simp_all
