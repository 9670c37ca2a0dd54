theorem see_eq {f : Nat → Int32} {tz q : Nat} (hz : tz ≤ 4000) (hq : q < tz) : ((if nI (q + 1) < nI tz then f (q + 1) else -1) = 61) ↔ (q + 1 < tz ∧ f (q + 1) = 61) := by
  by_cases h : q + 1 < tz
  · rw [if_pos (nI_lt h (by omega))]
    exact ⟨fun z => ⟨h, z⟩, fun z => z.2⟩
  · rw [if_neg (nI_nlt (by omega) (by omega))]
    exact ⟨fun z => absurd z (by decide), fun z => absurd z.1 h⟩
theorem cL_32 {x : Int32} (h : x = 32) : ¬ cL x := by
  subst h
  decide
/-- both look for the next token at the same place -/
theorem aft_next {f : Nat → Int32} {tz q : Nat} (hz : tz ≤ 4000) (hq : q < tz) (hb : ¬ f q = 32) : tAft f tz q = sNext f tz q := by
  unfold tAft sNext
  rw [if_neg (by omega), if_neg hb]
  by_cases c : cL (f q) ∨ f q = 39
  · rw [if_pos c, if_pos c.symm]
    unfold tN tFR sN
    by_cases c3 : f q = 39
    · rw [if_pos c3]
    · rw [if_neg c3, rl_y (c.resolve_right c3) (by omega), show tz - q - 1 = tz - (q + 1) by omega]
      omega
  · have c' : ¬ (f q = 39 ∨ cL (f q)) := fun z => c z.symm
    rw [if_neg c, if_neg c']
    by_cases c4 : f q = 61 ∧ q + 1 < tz ∧ f (q + 1) = 61
    · have c5 : f q = 61 ∧ (if nI (q + 1) < nI tz then f (q + 1) else -1) = 61 := ⟨c4.1, (see_eq hz hq).mpr c4.2⟩
      rw [if_pos c5, if_pos c4]
    · have c5 : ¬ (f q = 61 ∧ (if nI (q + 1) < nI tz then f (q + 1) else -1) = 61) := fun z => c4 ⟨z.1, (see_eq hz hq).mp z.2⟩
      rw [if_neg c5, if_neg c4]
/-- in a row of letters and digits all are such -/
theorem rl_all {f : Nat → Int32} {m : Nat} : ∀ {a j : Nat}, j < rl f a m → cL (f (a + j)) := by
  induction m with
  | zero => intro a j h; exact absurd h (by simp [rl])
  | succ m ih =>
    intro a j h
    by_cases c : cL (f a)
    · rw [rl_y c (by omega)] at h
      simp only [Nat.add_sub_cancel] at h
      cases j with
      | zero => exact c
      | succ j =>
        have := ih (a := a + 1) (j := j) (by omega)
        rw [show a + (j + 1) = a + 1 + j by omega]
        exact this
    · rw [rl_n c] at h
      omega
theorem ff_all {p : Nat → Bool} {k : Nat} : ∀ {i : Nat}, i + k < 2 ^ 31 → (ff p i k = -1 ↔ ∀ j, i ≤ j → j < i + k → ¬ p j = true) := by
  induction k with
  | zero => intro i _; exact ⟨fun _ j h1 h2 => by omega, fun _ => rfl⟩
  | succ k ih =>
    intro i hi
    by_cases c : p i = true
    · rw [ff_yes c (by omega)]
      exact ⟨fun z => absurd z (nI_m1 (by omega)), fun z => absurd c (z i (Nat.le_refl i) (by omega))⟩
    · rw [ff_no c (by omega), Nat.add_sub_cancel, ih (by omega)]
      refine ⟨fun z j h1 h2 => ?_, fun z j h1 h2 => z j (by omega) (by omega)⟩
      by_cases e : j = i
      · subst e; exact c
      · exact z j (by omega) (by omega)
theorem sml_all {f : Nat → Int32} {a n : Nat} : sml f a n = 0 ∨ sml f a n = 1 := by
  cases n with
  | zero => exact Or.inr rfl
  | succ n =>
    show (if sml f a n = 0 then (0 : Int32) else if cG (f (a + n)) then 0 else 1) = 0 ∨ (if sml f a n = 0 then (0 : Int32) else if cG (f (a + n)) then 0 else 1) = 1
    (repeat' split) <;> simp
theorem sml_iff {f : Nat → Int32} {a n : Nat} : (¬ sml f a n = 0) ↔ ∀ j, j < n → ¬ cG (f (a + j)) := by
  induction n with
  | zero => exact ⟨fun _ j h => by omega, fun _ => by show ¬ (1 : Int32) = 0; decide⟩
  | succ n ih =>
    show (¬ (if sml f a n = 0 then (0 : Int32) else if cG (f (a + n)) then 0 else 1) = 0) ↔ _
    by_cases c : sml f a n = 0
    · rw [if_pos c]
      exact ⟨fun z => absurd rfl z, fun z => absurd c (ih.mpr (fun j h => z j (by omega)))⟩
    · rw [if_neg c]
      by_cases c2 : cG (f (a + n))
      · rw [if_pos c2]
        exact ⟨fun z => absurd rfl z, fun z => absurd c2 (z n (by omega))⟩
      · rw [if_neg c2]
        refine ⟨fun _ j h => ?_, fun _ => by decide⟩
        by_cases e : j = n
        · subst e; exact c2
        · exact ih.mp c j (by omega)
theorem dgs_iff {f : Nat → Int32} {a n : Nat} : (¬ dgs f a n = 0) ↔ ∀ j, j < n → cD (f (a + j)) := by
  induction n with
  | zero => exact ⟨fun _ j h => by omega, fun _ => by show ¬ (1 : Int32) = 0; decide⟩
  | succ n ih =>
    show (¬ (if dgs f a n = 0 then (0 : Int32) else if cD (f (a + n)) then 1 else 0) = 0) ↔ _
    by_cases c : dgs f a n = 0
    · rw [if_pos c]
      exact ⟨fun z => absurd rfl z, fun z => absurd c (ih.mpr (fun j h => z j (by omega)))⟩
    · rw [if_neg c]
      by_cases c2 : cD (f (a + n))
      · rw [if_pos c2]
        refine ⟨fun _ j h => ?_, fun _ => by decide⟩
        by_cases e : j = n
        · subst e; exact c2
        · exact ih.mp c j (by omega)
      · rw [if_neg c2]
        exact ⟨fun z => absurd rfl z, fun z => absurd (z n (by omega)) c2⟩
