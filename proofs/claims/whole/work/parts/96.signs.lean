theorem sg_all : ∀ n, n < 256 → sgs (nI n) 22 = if 0 ≤ ff (isC 3 (nI n)) 0 22 then 6 else 0 := by decide +kernel
theorem sg_char : ∀ n, n < 256 → 0 ≤ ff (isC 3 (nI n)) 0 22 → s_ch 5 (ff (isC 3 (nI n)) 0 22).toNatClampNeg = nI n := by decide +kernel
theorem ch_nI {c : Int32} (h : 0 ≤ c ∧ c ≤ 255) : ∃ n, n < 256 ∧ c = nI n := by
  rcases pk_ix c (n := 256) (by decide) with z | z | z
  · exact absurd z (Int32.not_lt.mpr h.1)
  · exfalso
    have z2 := h.2
    simp only [i_le] at z z2
    have e : (nI 256).toInt = 256 := by decide
    have e2 : (255 : Int32).toInt = 255 := by decide
    omega
  · exact z
/-- a sign is one on both sides -/
theorem sort_sign {f : Nat → Int32} {tz q : Nat} (hq : q < tz) (hn : ¬ (cL (f q) ∨ f q = 39)) (hc : 0 ≤ f q ∧ f q ≤ 255) : tSort f tz q = if 0 ≤ ff (isC 3 (f q)) 0 22 then 6 else 0 := by
  unfold tSort
  rw [if_neg (by omega), if_neg hn]
  obtain ⟨n, h1, h2⟩ := ch_nI hc
  rw [h2]
  exact sg_all n h1
