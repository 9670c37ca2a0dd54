/-! what the grammar tells of a written TYPE -/
section CTW
variable {X : Lx} {f i j : Nat} {c : Bool}
theorem pTy_p : ∀ (f : Nat) (c : Bool) (i j : Nat), pTy (xK X) f c i = .ok j → ¬ (c = true ∧ xK X i = 3) → tyP X f i ∧ tyE X f i = j := by
  intro f
  induction f with
  | zero => intro c i j h; rw [pTy] at h; cases h
  | succ f ih =>
    intro c i j h hc
    rw [pTy, if_neg hc] at h
    unfold tyP tyE
    by_cases c1 : xK X i = 59 ∨ xK X i = 55
    · rw [if_pos c1] at h
      by_cases k4 : xK X (i + 1) = 4
      · rw [if_pos k4] at h
        by_cases k3 : xK X (i + 2) = 3
        · have ti : tiQ X i := ⟨by omega, k3⟩
          cases f with
          | zero => rw [pTy] at h; cases h
          | succ f =>
            rw [pTy, if_pos ⟨rfl, k3⟩] at h
            cases h
            refine ⟨Or.inr ⟨by omega, k4, Or.inl ⟨ti, by omega⟩⟩, ?_⟩
            rw [if_neg (by omega), if_pos ti]
        · have ti : ¬ tiQ X i := fun w => k3 w.2
          obtain ⟨a, b⟩ := ih true (i + 2) j h (fun w => k3 w.2)
          refine ⟨Or.inr ⟨by omega, k4, Or.inr ⟨ti, a⟩⟩, ?_⟩
          rw [if_neg (by omega), if_neg ti]
          exact b
      · rw [if_neg k4] at h; cases h
    rw [if_neg c1] at h
    by_cases c2 : xK X i = 60
    · rw [if_pos c2] at h
      by_cases k4 : xK X (i + 1) = 4
      · rw [if_pos k4] at h
        have ti : ¬ tiQ X i := fun w => w.1 c2
        obtain ⟨a, b⟩ := ih false (i + 2) j h (fun w => absurd w.1 (by decide))
        refine ⟨Or.inr ⟨by omega, k4, Or.inr ⟨ti, a⟩⟩, ?_⟩
        rw [if_neg (by omega), if_neg ti]
        exact b
      · rw [if_neg k4] at h; cases h
    rw [if_neg c2] at h
    by_cases c3 : xK X i = 26
    · rw [if_pos c3] at h
      cases h
      exact ⟨Or.inl c3, by rw [if_pos c3]⟩
    · rw [if_neg c3] at h; cases h
end CTW
