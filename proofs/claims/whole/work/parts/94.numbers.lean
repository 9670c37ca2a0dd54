theorem bad_dgs {f : Nat → Int32} {a n : Nat} (hn : n < 2 ^ 31) : ff (bad1 f a 0) 0 n = -1 ↔ ¬ dgs f a n = 0 := by
  rw [ff_all (by omega), dgs_iff]
  refine ⟨fun z j hj => Decidable.byContradiction (fun y => z j (Nat.zero_le j) (by omega) (decide_eq_true ⟨y, Or.inl rfl⟩)), fun z j _ hj y => (of_decide_eq_true y).1 (z j (by omega))⟩
theorem nI_is10 {n : Nat} (h : n < 2 ^ 31) : 10 ≤ nI n ↔ 10 ≤ n := ⟨fun z => (ni_le (a := 10) (b := n) (by decide) h).1 z, fun z => nI_le (a := 10) z h⟩
theorem nI_is8 {n : Nat} (h : n < 2 ^ 31) : 8 < nI n ↔ 8 < n := ⟨fun z => (ni_lt (a := 8) (b := n) (by decide) h).1 z, fun z => nI_lt (a := 8) z h⟩
theorem cD_39 {x : Int32} (h : cD x) : ¬ x = 39 := by
  intro e
  subst e
  exact absurd h (by decide)
/-- a row that begins with a digit is a NUMBER on both sides, or on neither -/
theorem sort_num {f : Nat → Int32} {tz q : Nat} (hz : tz ≤ 4000) (hq : q < tz) (hd : cD (f q)) : tSort f tz q = if m9 f q (sN f tz q) = 0 then 0 else 5 := by
  have h39 : ¬ f q = 39 := cD_39 hd
  have hc : cL (f q) := Or.inr (Or.inr hd)
  have hF : tFR f q = q := if_neg h39
  have hN : tN f tz q = sN f tz q + 1 := by
    unfold tN sN
    rw [hF, rl_y hc (by omega), show tz - q - 1 = tz - (q + 1) by omega]
  have hle : sN f tz q ≤ tz - (q + 1) := rl_le
  have hb := bad_dgs (f := f) (a := q) (n := sN f tz q + 1) (by omega)
  unfold tSort
  rw [if_neg (by omega), if_pos (Or.inl hc), if_neg h39, hN, hF, if_pos (nI_lt hq (by omega))]
  generalize sN f tz q = n at *
  have e1 := nI_is10 (n := n + 1) (by omega)
  unfold srt m9
  rw [if_pos rfl]
  by_cases c1 : dgs f q (n + 1) = 0
  · rw [if_pos c1]
    have c2 : ¬ ff (bad1 f q 0) 0 (n + 1) = -1 := fun z => hb.mp z c1
    have c3 : (if 9 < n + 1 then (0 : Int32) else if ff (bad1 f q 0) 0 (n + 1) = -1 then 1 else 0) = 0 := by
      by_cases c : 9 < n + 1
      · rw [if_pos c]
      · rw [if_neg c, if_neg c2]
    rw [if_pos c3]
    by_cases c : 8 < nI (n + 1)
    · rw [if_pos c]
    · rw [if_neg c, if_pos hd]
  · rw [if_neg c1]
    have c2 := hb.mpr c1
    by_cases c : 9 < n + 1
    · rw [if_pos (e1.mpr (by omega)), if_pos (if_pos c)]
    · rw [if_neg (fun z => c (by have := e1.mp z; omega)), if_neg (by rw [if_neg c, if_pos c2]; decide)]
