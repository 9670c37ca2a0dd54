theorem i_nat {p : Int32} {n : Nat} (h0 : 0 ≤ p) (h1 : p.toInt < n) : ∃ a : Nat, a < n ∧ p = nI a := by
  obtain ⟨a, ha, e⟩ := nI_of (x := p) (by simp only [i_lt, i_le, Int32.reduceToInt] at *; omega)
  refine ⟨a, ?_, e⟩
  rw [e, nI_toInt ha] at h1
  omega
theorem part_in {p q r : Int32} (hr : r = if 0 ≤ p ∧ p < 24 ∧ 0 ≤ q ∧ q < 8 then 1 else 0) (c : ¬ r = 0) : vp_in (p * 8 + q) 192 := by
  by_cases h : 0 ≤ p ∧ p < 24 ∧ 0 ≤ q ∧ q < 8
  · obtain ⟨h1, h2, h3, h4⟩ := h
    obtain ⟨a, ha, rfl⟩ := i_nat (n := 24) h1 (by simp only [i_lt, Int32.reduceToInt] at h2; omega)
    obtain ⟨b, hb, rfl⟩ := i_nat (n := 8) h3 (by simp only [i_lt, Int32.reduceToInt] at h4; omega)
    have e : nI a * 8 + nI b = nI (a * 8 + b) := by
      rw [show (8 : Int32) = nI 8 from rfl, pk_mul, nI_add]
    rw [e]
    exact vp_in_nI (by omega) (by decide)
  · rw [if_neg h] at hr
    exact absurd hr c

