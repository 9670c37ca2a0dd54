theorem hp_at : ∀ n, n < 133 → s_ch 0 n = 32 → hpos.getD (wc n) 0 = n := by decide +kernel
theorem hp_val : ∀ j, j < 26 → wpk (hpos.getD j 0) = WL.getD j 0 := by decide +kernel
theorem hp_cur : ∀ j, j < 26 → kcur (hpos.getD j 0) = WL.getD j 0 := by decide +kernel
theorem hp_in : ∀ j, j < 26 → hpos.getD j 0 < 133 ∧ s_ch 4 (hpos.getD j 0) = 32 := by decide +kernel
theorem same_txt : ∀ k, k < 133 → s_ch 4 k = s_ch 0 k := by decide +kernel
theorem wc_133 : wc 133 = 26 := by decide +kernel
theorem wt_hp {n : Nat} : n ≤ 133 → ∀ j, j < wc n → wt n j = wpk (hpos.getD j 0) := by
  induction n with
  | zero => intro _ j h; exact absurd h (by show ¬ j < 0; omega)
  | succ n ih =>
    intro hn j h
    by_cases c : s_ch 0 n = 32
    · rw [wt_s c]
      rw [wc_s c] at h
      by_cases e : j = wc n
      · rw [e, pk_uLs, hp_at n (by omega) c]
      · rw [pk_uLn e]
        exact ih (by omega) j (by omega)
    · rw [wt_n c]
      rw [wc_n c] at h
      exact ih (by omega) j h
theorem wt_val {j : Nat} (h : j < 26) : wt 133 j = WL.getD j 0 := (wt_hp (Nat.le_refl 133) j (by rw [wc_133]; exact h)).trans (hp_val j h)
/-- both sides keep the same words -/
theorem kept_same (w : Int64) : ff (khit w) 0 133 = -1 ↔ ff (isW (wt 133) w) 0 26 = -1 := by
  rw [ff_all (by decide), ff_all (by decide)]
  constructor
  · intro z j _ hj y
    have hj : j < 26 := by omega
    have e := of_decide_eq_true y
    refine z (hpos.getD j 0) (Nat.zero_le _) (by have := (hp_in j hj).1; omega) ?_
    simp only [khit, Bool.and_eq_true, decide_eq_true_eq]
    exact ⟨(hp_in j hj).2, (hp_cur j hj).trans ((wt_val hj).symm.trans e)⟩
  · intro z k _ hk y
    have hk : k < 133 := by omega
    simp only [khit, Bool.and_eq_true, decide_eq_true_eq] at y
    have y0 : s_ch 0 k = 32 := (same_txt k hk).symm.trans y.1
    have hj : wc k < 26 := (w_fact k hk).1
    have e := hp_at k hk y0
    refine z (wc k) (Nat.zero_le _) (by omega) (decide_eq_true ?_)
    rw [wt_val hj, ← hp_cur _ hj, e]
    exact y.2
