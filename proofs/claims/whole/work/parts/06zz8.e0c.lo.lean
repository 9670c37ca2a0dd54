/-! where the law's loop ends */
-/
section LO6
variable {L i : Nat}
theorem lo_sub (h : 6 ≤ L) : nI L - 6 = nI (L - 6) := by
  have e : nI L = nI (L - 6) + 6 := by
    rw [show (6 : Int32) = nI 6 from rfl, ← show nI (L - 6 + 6) = nI (L - 6) + nI 6 from Int32.ofNat_add _ _, Nat.sub_add_cancel h]
  rw [e]
  exact Int32.add_sub_cancel _ _
theorem lo_gt (hL : L ≤ 3072) (hi : i ≤ L + 6) (h : L < i + 6) : nI L - 6 < nI i := by
  by_cases c : 6 ≤ L
  · rw [lo_sub c]
    exact (nI_ltI (a := L - 6) (b := i) (by omega) (by omega)).mpr (by omega)
  · have n : nI L - 6 < 0 := by
      rcases (show L = 0 ∨ L = 1 ∨ L = 2 ∨ L = 3 ∨ L = 4 ∨ L = 5 by omega) with rfl | rfl | rfl | rfl | rfl | rfl <;> decide
    refine Int32.lt_of_lt_of_le n ?_
    exact (nI_leI (a := 0) (b := i) (by omega) (by omega)).mpr (by omega)
theorem lo_le (hL : L ≤ 3072) (hi : i ≤ L + 6) (h : ¬ nI L - 6 < nI i) : i + 6 ≤ L := Decidable.byContradiction fun w => h (lo_gt hL hi (by omega))
end LO6
