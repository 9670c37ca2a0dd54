theorem dn {v : Int32} {k : Nat} (hv : v + 1 = nI k) (hk : k < 2 ^ 31) : (v < 0 → k = 0) ∧ (¬ v < 0 → ∃ j : Nat, k = j + 1 ∧ v = nI j) := by
  cases k with
  | zero =>
    have e : v = -1 := by
      have : v = nI 0 - 1 := by rw [← hv]; exact (Int32.add_sub_cancel v 1).symm
      rw [this]; rfl
    subst e
    exact ⟨fun _ => rfl, fun h => absurd (by decide) h⟩
  | succ j =>
    have e : v = nI j := by
      have : v = nI (j + 1) - 1 := by rw [← hv]; exact (Int32.add_sub_cancel v 1).symm
      rw [this]; exact nI_pred j
    subst e
    exact ⟨fun h => absurd h (nI_pos (by omega)), fun _ => ⟨j, rfl, rfl⟩⟩

