/-! a REGION told twice in a head, on both sides -/
section CBD
variable {S T : gSt} {N : Nat → Int64} {e k it j : Nat}
theorem dpR_v : ∀ (m q : Nat) (f : Int32), (dpR S it j m q f = 0) ↔ (f = 0 ∧ ∀ p, q ≤ p → p < q + m → ¬ S.2 16 (3 * it + p) = S.2 16 (3 * it + j)) := by
  intro m
  induction m with
  | zero => intro q f; exact ⟨fun h => ⟨h, fun p a b => by omega⟩, fun h => h.1⟩
  | succ m ih =>
    intro q f
    rw [dpR, ih]
    constructor
    · intro ⟨h1, h2⟩
      by_cases cf : f = 0
      · rw [if_pos cf] at h1
        refine ⟨cf, fun p a b => ?_⟩
        by_cases cp : p = q
        · subst cp
          intro w
          rw [if_pos w] at h1
          exact absurd h1 (by decide)
        · exact h2 p (by omega) (by omega)
      · rw [if_neg cf] at h1
        exact absurd h1 (by decide)
    · intro ⟨h1, h2⟩
      refine ⟨?_, fun p a b => h2 p (by omega) (by omega)⟩
      rw [if_pos h1, if_neg (h2 q (by omega) (by omega))]
/-- the class finds a REGION of a head where it is told, unless it was told ahead -/
theorem b_dup (hk : 1 ≤ k) (hke : k ≤ e) (he : e ≤ 3) (hm : ∀ r, 1 ≤ r → r ≤ 3 → T.2 73 r = if r ≤ e then N r else 0) (hS : ∀ q, q < e → S.2 16 (3 * it + q) = N (q + 1)) : ((if N k = 72 then (0 : Int32) else ff (isRk T (N k)) 1 (4 - 1)) = nI k) ↔ dpR S it (k - 1) (k - 1) 0 (if S.2 16 (3 * it + (k - 1)) = 72 then 1 else 0) = 0 := by
  have e1 : S.2 16 (3 * it + (k - 1)) = N k := by rw [hS (k - 1) (by omega), show k - 1 + 1 = k by omega]
  rw [dpR_v, e1]
  by_cases c72 : N k = 72
  · rw [if_pos c72, if_pos c72]
    constructor
    · intro h
      have := nI_inj (a := 0) (b := k) (by omega) (by omega) h
      omega
    · intro h
      exact absurd h.1 (by decide)
  · rw [if_neg c72, if_neg c72]
    constructor
    · intro h
      refine ⟨rfl, fun p _ p2 w => ?_⟩
      rw [hS p (by omega)] at w
      refine ff_min (p := isRk T (N k)) (4 - 1) 1 (by omega) h (by omega) (p + 1) (by omega) (by omega) (decide_eq_true ?_)
      rw [hm (p + 1) (by omega) (by omega), if_pos (by omega)]
      exact w
    · intro ⟨_, h⟩
      have := ff_fst (p := isRk T (N k)) (k - 1) 1 (4 - 1) (fun q q1 q2 w => by
        have w' := of_decide_eq_true w
        rw [hm q q1 (by omega), if_pos (by omega)] at w'
        refine h (q - 1) (by omega) (by omega) ?_
        rw [hS (q - 1) (by omega), show q - 1 + 1 = q by omega]
        exact w') (show isRk T (N k) (1 + (k - 1)) = true from decide_eq_true (by rw [show 1 + (k - 1) = k by omega, hm k hk (by omega), if_pos hke])) (by omega)
      rw [show 1 + (k - 1) = k by omega] at this
      exact this
end CBD
