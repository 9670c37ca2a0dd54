/-! the room of the class: rows and types by characters -/
def bX (X : Lx) (t : Tr) : Prop := kwT t ≤ cw X t ∧ lvT X t + 3 ≤ 4 * cw X t
def bA (X : Lx) (t : Tr) : Prop := kwT t ≤ cw X t ∧ lvT X t ≤ 4 * cw X t + (if isZ t = true then 0 else 3)
def bS (X : Lx) (t : Tr) : Prop := 2 * kwS2 t ≤ 3 * cws X t ∧ lvS2 X t ≤ 4 * cws X t
def bB (X : Lx) (t : Tr) : Prop := 2 * kwS2 t + 6 ≤ 3 * cws X t ∧ lvS2 X t + 8 ≤ 4 * cws X t
section RMC
variable {X : Lx} {i j k m e c : Nat} {ta tb tr a b : Tr} {G : Nat → Nat → ER}
theorem bx_args (hG : ∀ md i tr j, G md i = .ok (tr, j) → bX X tr) : ∀ (f q i : Nat) (tr : Tr) (j : Nat), pArgs (xK X) (G 0) c f q i = .ok (tr, j) → bA X tr := by
  intro f
  induction f with
  | zero => intro q i tr j h; cases h
  | succ f ih =>
    intro q i tr j h
    rw [pArgs] at h
    split at h
    · cases h
      exact ⟨Nat.le_refl _, Nat.le_refl _⟩
    · split at h
      · cases h
      · split at h
        · cases h
        · obtain ⟨a, j2, h1, h2⟩ := eb_ok h
          obtain ⟨r, j3, h3, h4⟩ := eb_ok h2
          cases h4
          have A := hG _ _ _ _ h1
          have B := ih _ _ _ _ h3
          unfold bX at A
          unfold bA at B ⊢
          rw [show isZ (tD 10 0 0 a r) = false from rfl, if_neg (by decide)]
          have e1 : kwT (tD 10 0 0 a r) = kwT a + kwT r := rfl
          have e2 : lvT X (tD 10 0 0 a r) = lvT X a + lvT X r + 6 := rfl
          have e3 : cw X (tD 10 0 0 a r) = if isZ r = true then cw X a else cw X a + cw X r + 1 := rfl
          by_cases z : isZ r = true
          · obtain ⟨n, rfl⟩ : ∃ n, r = .num n := by
              unfold isZ at z
              split at z
              · exact ⟨_, rfl⟩
              · cases z
            have e4 : kwT (.num n) = 0 := rfl
            have e5 : lvT X (.num n) = 0 := rfl
            rw [if_pos z] at e3
            omega
          · rw [if_neg z] at e3 B
            omega
theorem bx_prim (hG : ∀ md i tr j, G md i = .ok (tr, j) → bX X tr) (h : pPrim (xK X) G i = .ok (tr, j)) : bX X tr := by
  have lf : ∀ i, bX X (tD 1 i 0 tZ tZ) := fun i => by
    have e3 : cw X (tD 1 i 0 tZ tZ) = if xK X i = 27 then 4 else 1 := rfl
    have e1 : kwT (tD 1 i 0 tZ tZ) = 1 := rfl
    have e2 : lvT X (tD 1 i 0 tZ tZ) = 1 := rfl
    unfold bX
    split at e3 <;> omega
  unfold pPrim at h
  by_cases c42 : xK X i = 42
  · rw [if_pos c42] at h
    obtain ⟨a, j2, h1, h2⟩ := eb_ok h
    obtain ⟨_, h3⟩ := ek_ok h2
    cases h3
    have A := hG _ _ _ _ h1
    unfold bX at A ⊢
    have e1 : kwT (tD 2 i 0 a tZ) = kwT a := rfl
    have e2 : lvT X (tD 2 i 0 a tZ) = lvT X a := rfl
    have e3 : cw X (tD 2 i 0 a tZ) = cw X a + 2 := rfl
    omega
  rw [if_neg c42] at h
  by_cases c5 : xK X i = 5 ∨ xK X i = 27 ∨ xK X i = 34 ∨ xK X i = 35
  · rw [if_pos c5] at h
    cases h
    exact lf i
  rw [if_neg c5] at h
  by_cases c2 : xK X i = 2
  · rw [if_pos c2] at h
    split at h
    · obtain ⟨_, h2⟩ := ek_ok h
      obtain ⟨a, j2, h3, h4⟩ := eb_ok h2
      cases h4
      have A := bx_args hG _ _ _ _ _ h3
      unfold bA at A
      unfold bX
      have e1 : kwT (tD 6 i (rgs (xK X) 3 (i + 1)) a tZ) = kwT a + 1 := rfl
      have e2 : lvT X (tD 6 i (rgs (xK X) 3 (i + 1)) a tZ) = lvT X a + 6 := rfl
      have e3 : cw X (tD 6 i (rgs (xK X) 3 (i + 1)) a tZ) = cw X a + rgs (xK X) 3 (i + 1) + 3 := rfl
      split at A <;> omega
    · cases h
      exact lf i
  rw [if_neg c2] at h
  by_cases c28 : xK X i = 28
  · rw [if_pos c28] at h
    obtain ⟨h4, h⟩ := ek_ok h
    obtain ⟨h3, h⟩ := ek_ok h
    by_cases cu : xK X (i + 3 + rgs (xK X) 3 (i + 3)) = 49
    · rw [if_pos cu] at h
      obtain ⟨h2, h⟩ := ek_ok h
      obtain ⟨_, h⟩ := ek_ok h
      obtain ⟨a, j2, h5, h⟩ := eb_ok h
      obtain ⟨_, h⟩ := ek_ok h
      cases h
      have A := hG _ _ _ _ h5
      unfold bX at A ⊢
      have e1 : kwT (tD 7 i (rgs (xK X) 3 (i + 3)) a tZ) = kwT a + 1 := rfl
      have e2 : lvT X (tD 7 i (rgs (xK X) 3 (i + 3)) a tZ) = lvT X a + 8 := rfl
      have e3 : cw X (tD 7 i (rgs (xK X) 3 (i + 3)) a tZ) = if xK X (i + 3 + rgs (xK X) 3 (i + 3)) = 49 then cw X a + rgs (xK X) 3 (i + 3) + 7 else cw X a + rgs (xK X) 3 (i + 3) + 5 := rfl
      rw [if_pos cu] at e3
      omega
    · rw [if_neg cu] at h
      obtain ⟨h2, h⟩ := ek_ok h
      obtain ⟨a, j2, h5, h⟩ := eb_ok h
      cases h
      have A := bx_args hG _ _ _ _ _ h5
      unfold bA at A
      unfold bX
      have e1 : kwT (tD 7 i (rgs (xK X) 3 (i + 3)) a tZ) = kwT a + 1 := rfl
      have e2 : lvT X (tD 7 i (rgs (xK X) 3 (i + 3)) a tZ) = lvT X a + 8 := rfl
      have e3 : cw X (tD 7 i (rgs (xK X) 3 (i + 3)) a tZ) = if xK X (i + 3 + rgs (xK X) 3 (i + 3)) = 49 then cw X a + rgs (xK X) 3 (i + 3) + 7 else cw X a + rgs (xK X) 3 (i + 3) + 5 := rfl
      rw [if_neg cu] at e3
      split at A <;> omega
  rw [if_neg c28] at h
  have e8 : ∀ a b, kwT (tD 8 i 0 a b) = kwT a + kwT b + 1 ∧ lvT X (tD 8 i 0 a b) = lvT X a + lvT X b + 1 ∧ cw X (tD 8 i 0 a b) = (if xK X i = 29 then cw X a + 4 else if xK X i = 30 then cw X a + cw X b + 5 else cw X a + 3) := fun a b => ⟨rfl, rfl, rfl⟩
  have ez : kwT tZ = 0 ∧ lvT X tZ = 0 ∧ cw X tZ = 0 := ⟨rfl, rfl, rfl⟩
  by_cases c29 : xK X i = 29
  · rw [if_pos c29] at h
    obtain ⟨h4, h⟩ := ek_ok h
    obtain ⟨_, h⟩ := ek_ok h
    obtain ⟨a, j2, h5, h⟩ := eb_ok h
    obtain ⟨_, h⟩ := ek_ok h
    cases h
    have A := hG _ _ _ _ h5
    unfold bX at A ⊢
    obtain ⟨e1, e2, e3⟩ := e8 a tZ
    rw [if_pos c29] at e3
    omega
  rw [if_neg c29] at h
  by_cases c30 : xK X i = 30
  · rw [if_pos c30] at h
    obtain ⟨h4, h⟩ := ek_ok h
    obtain ⟨_, h⟩ := ek_ok h
    obtain ⟨a, j2, h5, h⟩ := eb_ok h
    obtain ⟨_, h⟩ := ek_ok h
    obtain ⟨b, j3, h6, h⟩ := eb_ok h
    obtain ⟨_, h⟩ := ek_ok h
    cases h
    have A := hG _ _ _ _ h5
    have B := hG _ _ _ _ h6
    unfold bX at A B ⊢
    obtain ⟨e1, e2, e3⟩ := e8 a b
    rw [if_neg c29, if_pos c30] at e3
    omega
  rw [if_neg c30] at h
  by_cases c58 : xK X i = 58
  · rw [if_pos c58] at h
    obtain ⟨a, j2, h5, h⟩ := eb_ok h
    cases h
    have A := hG _ _ _ _ h5
    unfold bX at A ⊢
    have e1 : kwT (tD 9 i 0 a tZ) = kwT a := rfl
    have e2 : lvT X (tD 9 i 0 a tZ) = lvT X a + lvT X tZ + 1 := rfl
    have e3 : cw X (tD 9 i 0 a tZ) = cw X a + 1 := rfl
    omega
  rw [if_neg c58] at h
  by_cases c31 : xK X i = 31 ∨ xK X i = 32
  · rw [if_pos c31] at h
    obtain ⟨_, h⟩ := ek_ok h
    obtain ⟨a, j2, h5, h⟩ := eb_ok h
    obtain ⟨_, h⟩ := ek_ok h
    cases h
    have A := hG _ _ _ _ h5
    unfold bX at A ⊢
    obtain ⟨e1, e2, e3⟩ := e8 a tZ
    rw [if_neg c29, if_neg c30] at e3
    omega
  rw [if_neg c31] at h
  cases h
theorem bx_tails (hG : ∀ md i tr j, G md i = .ok (tr, j) → bX X tr) : ∀ (f : Nat) (tr : Tr) (i : Nat) (t' : Tr) (j : Nat), bX X tr → pTails (xK X) G f tr i = .ok (t', j) → bX X t' := by
  have t3 : ∀ i tr, bX X tr → bX X (tD 3 i 0 tr tZ) := fun i tr A => by
    unfold bX at A ⊢
    have e1 : kwT (tD 3 i 0 tr tZ) = kwT tr + 1 := rfl
    have e2 : lvT X (tD 3 i 0 tr tZ) = lvT X tr + tw X i := rfl
    have e3 : cw X (tD 3 i 0 tr tZ) = cw X tr + (if xK X i = 61 then 1 else 2) := rfl
    unfold tw at e2
    split at e2
    · rename_i c
      rw [if_pos c] at e3
      omega
    · rename_i c
      rw [if_neg c] at e3
      omega
  intro f
  induction f with
  | zero => intro tr i t' j _ h; cases h
  | succ f ih =>
    intro tr i t' j h0 h
    rw [pTails] at h
    split at h
    · obtain ⟨h2, h⟩ := ek_ok h
      exact ih _ _ t' j (t3 i tr h0) h
    · split at h
      · exact ih _ _ t' j (t3 i tr h0) h
      · split at h
        · obtain ⟨a, j2, h5, h⟩ := eb_ok h
          obtain ⟨_, h⟩ := ek_ok h
          refine ih _ _ t' j ?_ h
          have A := hG _ _ _ _ h5
          unfold bX at A h0 ⊢
          have e1 : kwT (tD 4 i 0 tr a) = kwT tr + kwT a + 1 := rfl
          have e2 : lvT X (tD 4 i 0 tr a) = lvT X tr + lvT X a := rfl
          have e3 : cw X (tD 4 i 0 tr a) = cw X tr + cw X a + 2 := rfl
          omega
        · cases h
          exact h0
theorem bx_term (hG : ∀ md i tr j, G md i = .ok (tr, j) → bX X tr) (h : pTerm (xK X) G i = .ok (tr, j)) : bX X tr := by
  unfold pTerm at h
  obtain ⟨a, j2, h1, h2⟩ := eb_ok h
  exact bx_tails hG _ _ _ _ _ (bx_prim hG h1) h2
theorem bx_ops (hG : ∀ md i tr j, G md i = .ok (tr, j) → bX X tr) : ∀ (f : Nat) (tr : Tr) (i : Nat) (t' : Tr) (j : Nat), bX X tr → pOps (xK X) G f tr i = .ok (t', j) → bX X t' := by
  intro f
  induction f with
  | zero => intro tr i t' j _ h; cases h
  | succ f ih =>
    intro tr i t' j h0 h
    rw [pOps] at h
    split at h
    · obtain ⟨a, j2, h1, h2⟩ := eb_ok h
      refine ih _ _ t' j ?_ h2
      have A := bx_term hG h1
      unfold bX at A h0 ⊢
      have e1 : kwT (tD 5 i (xK X i) tr a) = kwT tr + kwT a + 1 := rfl
      have e2 : lvT X (tD 5 i (xK X i) tr a) = lvT X tr + lvT X a := rfl
      have e3 : cw X (tD 5 i (xK X i) tr a) = cw X tr + cw X a + 1 := rfl
      omega
    · cases h
      exact h0
theorem pEx_bx : ∀ m md i tr j, pEx (xK X) m md i = .ok (tr, j) → bX X tr := by
  intro m
  induction m with
  | zero => intro md i tr j h; cases h
  | succ m ih =>
    intro md i tr j h
    rw [pEx] at h
    split at h
    · unfold pExpr at h
      obtain ⟨a, j2, h1, h2⟩ := eb_ok h
      exact bx_ops ih _ _ _ _ _ (bx_term ih h1) h2
    · exact bx_term ih h
end RMC
