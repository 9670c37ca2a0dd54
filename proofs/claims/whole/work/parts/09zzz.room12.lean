/-! room for types: how many characters EXPRS and STEPS take at least -/
def SPc (X : Lx) : Prop := ∀ i, xK X i ≠ 0 → xP X i + 1 ≤ xP X (i + 1) ∧ (xK X i = 27 → xP X i + 4 ≤ xP X (i + 1))
def Gcw (X : Lx) (G : Nat → Nat → ER) : Prop := ∀ t i tr j, G t i = .ok (tr, j) → xP X i + cw X tr ≤ xP X j
def Bcw (X : Lx) (B : Nat → Nat → Nat → SR) : Prop := ∀ i v g tr j v' g', B i v g = .ok (tr, j, v', g') → xP X i + cws X tr ≤ xP X j
section WC
variable {X : Lx} {f : Nat → Int32} {z q : Nat}
theorem SPc.k (h : SPc X) {i k : Nat} (hk : xK X i = k) (h0 : k ≠ 0) : xP X i + 1 ≤ xP X (i + 1) := (h i (by rw [hk]; exact h0)).1
theorem SPc.k2 (h : SPc X) {i k : Nat} (j : Nat) (hk : xK X i = k) (h0 : k ≠ 0) (hj : j = i + 1) : xP X i + 1 ≤ xP X j := by rw [hj]; exact h.k hk h0
theorem rgs_sp (h : SPc X) : ∀ (m i : Nat), xP X i + rgs (xK X) m i ≤ xP X (i + rgs (xK X) m i) := by
  intro m
  induction m with
  | zero => intro i; exact Nat.le_refl _
  | succ m ih =>
    intro i
    rw [rgs]
    by_cases c : xK X i = 4
    · rw [if_pos c]
      have := ih (i + 1)
      have := h.k c (by omega)
      rw [show i + (rgs (xK X) m (i + 1) + 1) = i + 1 + rgs (xK X) m (i + 1) by omega]
      omega
    · rw [if_neg c]; exact Nat.le_refl _
theorem args_cw (h : SPc X) {G : Nat → Nat → ER} {c : Nat} (hc : c ≠ 0) (hG : Gcw X G) : ∀ (fl q i : Nat) (tr : Tr) (j : Nat), pArgs (xK X) (G 0) c fl q i = .ok (tr, j) → xP X i + (if isZ tr = true then 0 else if q = 0 then cw X tr else cw X tr + 1) + 1 ≤ xP X j ∧ (isZ tr = true → cw X tr = 0) := by
  intro fl
  induction fl with
  | zero => intro q i tr j h; cases h
  | succ fl ih =>
    intro q i tr j hh
    rw [pArgs] at hh
    by_cases c1 : xK X i = c
    · rw [if_pos c1] at hh
      injection hh with hh
      injection hh with h1 h2
      subst h1 h2
      have := h.k c1 hc
      refine ⟨?_, fun _ => rfl⟩
      rw [show isZ tZ = true from rfl, if_pos rfl]
      omega
    rw [if_neg c1] at hh
    by_cases c2 : q ≠ 0 ∧ xK X i ≠ 47
    · rw [if_pos c2] at hh; cases hh
    rw [if_neg c2] at hh
    by_cases c3 : q = 8
    · rw [if_pos c3] at hh; cases hh
    rw [if_neg c3] at hh
    obtain ⟨a, j1, e1, hh⟩ := eb_ok hh
    obtain ⟨r, j2, e2, hh⟩ := eb_ok hh
    injection hh with hh
    injection hh with h1 h2
    subst h1 h2
    have g1 := hG _ _ _ _ e1
    obtain ⟨i1, i2⟩ := ih _ _ _ _ e2
    have zz : isZ (tD 10 0 0 a r) = false := rfl
    have cc : cw X (tD 10 0 0 a r) = if isZ r = true then cw X a else cw X a + cw X r + 1 := rfl
    refine ⟨?_, fun z => by rw [zz] at z; exact absurd z (by decide)⟩
    rw [zz, if_neg (by decide), cc]
    rw [if_neg (show ¬ q + 1 = 0 by omega)] at i1
    by_cases c4 : q = 0
    · rw [if_pos c4] at g1
      rw [if_pos c4]
      split at i1
      · rename_i zr; rw [if_pos zr]; omega
      · rename_i zr; rw [if_neg zr]; omega
    · rw [if_neg c4] at g1
      rw [if_neg c4]
      have k47 : xK X i = 47 := Decidable.byContradiction fun z => c2 ⟨c4, z⟩
      have := h.k k47 (by omega)
      split at i1
      · rename_i zr; rw [if_pos zr]; omega
      · rename_i zr; rw [if_neg zr]; omega
theorem prim_cw (h : SPc X) {G : Nat → Nat → ER} (hG : Gcw X G) (i : Nat) (tr : Tr) (j : Nat) (hh : pPrim (xK X) G i = .ok (tr, j)) : xP X i + cw X tr ≤ xP X j := by
  unfold pPrim at hh
  by_cases c1 : xK X i = 42
  · rw [if_pos c1] at hh
    obtain ⟨a, j1, e1, hh⟩ := eb_ok hh
    obtain ⟨k1, hh⟩ := ek_ok hh
    injection hh with hh
    injection hh with h1 h2
    subst h1 h2
    have := hG _ _ _ _ e1
    have := h.k c1 (by omega)
    have := h.k k1 (by omega)
    show xP X i + (cw X a + 2) ≤ _
    omega
  rw [if_neg c1] at hh
  by_cases c2 : xK X i = 5 ∨ xK X i = 27 ∨ xK X i = 34 ∨ xK X i = 35
  · rw [if_pos c2] at hh
    injection hh with hh
    injection hh with h1 h2
    subst h1 h2
    have s := h i (by omega)
    show xP X i + (if xK X i = 27 then 4 else 1) ≤ _
    split
    · rename_i z; exact s.2 z
    · exact s.1
  rw [if_neg c2] at hh
  by_cases c3 : xK X i = 2
  · rw [if_pos c3] at hh
    have s0 := h.k c3 (by omega)
    by_cases c4 : xK X (i + 1) = 4 ∨ xK X (i + 1) = 42
    · rw [if_pos c4] at hh
      obtain ⟨k1, hh⟩ := ek_ok hh
      obtain ⟨a, j1, e1, hh⟩ := eb_ok hh
      injection hh with hh
      injection hh with h1 h2
      subst h1 h2
      have g := args_cw h (by omega) hG _ _ _ _ _ e1
      have r := rgs_sp h 3 (i + 1)
      have s1 := h.k k1 (by omega)
      show xP X i + (cw X a + rgs (xK X) 3 (i + 1) + 3) ≤ _
      have g1 := g.1
      split at g1
      · rename_i z
        have := g.2 z
        omega
      · rw [if_pos rfl] at g1
        omega
    · rw [if_neg c4] at hh
      injection hh with hh
      injection hh with h1 h2
      subst h1 h2
      show xP X i + (if xK X i = 27 then 4 else 1) ≤ _
      rw [if_neg (by omega)]
      exact s0
  rw [if_neg c3] at hh
  by_cases c4 : xK X i = 28
  · rw [if_pos c4] at hh
    obtain ⟨k1, hh⟩ := ek_ok hh
    obtain ⟨k2, hh⟩ := ek_ok hh
    have s0 := h.k c4 (by omega)
    have s1 := h.k2 (i + 2) k1 (by omega) rfl
    have s2 := h.k2 (i + 3) k2 (by omega) rfl
    have r := rgs_sp h 3 (i + 3)
    by_cases c5 : xK X (i + 3 + rgs (xK X) 3 (i + 3)) = 49
    · rw [if_pos c5] at hh
      obtain ⟨k3, hh⟩ := ek_ok hh
      obtain ⟨k4, hh⟩ := ek_ok hh
      obtain ⟨a, j1, e1, hh⟩ := eb_ok hh
      obtain ⟨k5, hh⟩ := ek_ok hh
      injection hh with hh
      injection hh with h1 h2
      subst h1 h2
      have := hG _ _ _ _ e1
      have s3 := h.k c5 (by omega)
      have s4 := h.k2 (i + 3 + rgs (xK X) 3 (i + 3) + 2) k3 (by omega) rfl
      have s5 := h.k2 (i + 3 + rgs (xK X) 3 (i + 3) + 3) k4 (by omega) rfl
      have s6 := h.k k5 (by omega)
      show xP X i + (if xK X (i + 3 + rgs (xK X) 3 (i + 3)) = 49 then cw X a + rgs (xK X) 3 (i + 3) + 7 else cw X a + rgs (xK X) 3 (i + 3) + 5) ≤ _
      rw [if_pos c5]
      omega
    · rw [if_neg c5] at hh
      obtain ⟨k3, hh⟩ := ek_ok hh
      obtain ⟨a, j1, e1, hh⟩ := eb_ok hh
      injection hh with hh
      injection hh with h1 h2
      subst h1 h2
      have g := args_cw h (by omega) hG _ _ _ _ _ e1
      have s3 := h.k k3 (by omega)
      show xP X i + (if xK X (i + 3 + rgs (xK X) 3 (i + 3)) = 49 then cw X a + rgs (xK X) 3 (i + 3) + 7 else cw X a + rgs (xK X) 3 (i + 3) + 5) ≤ _
      rw [if_neg c5]
      have g1 := g.1
      split at g1
      · rename_i z
        have := g.2 z
        omega
      · rw [if_pos rfl] at g1
        omega
  rw [if_neg c4] at hh
  by_cases c5 : xK X i = 29
  · rw [if_pos c5] at hh
    obtain ⟨k1, hh⟩ := ek_ok hh
    obtain ⟨k2, hh⟩ := ek_ok hh
    obtain ⟨a, j1, e1, hh⟩ := eb_ok hh
    obtain ⟨k3, hh⟩ := ek_ok hh
    injection hh with hh
    injection hh with h1 h2
    subst h1 h2
    have := hG _ _ _ _ e1
    have s0 := h.k c5 (by omega)
    have s1 := h.k2 (i + 2) k1 (by omega) rfl
    have s2 := h.k2 (i + 3) k2 (by omega) rfl
    have s3 := h.k k3 (by omega)
    show xP X i + (if xK X i = 29 then cw X a + 4 else _) ≤ _
    rw [if_pos c5]
    omega
  rw [if_neg c5] at hh
  by_cases c6 : xK X i = 30
  · rw [if_pos c6] at hh
    obtain ⟨k1, hh⟩ := ek_ok hh
    obtain ⟨k2, hh⟩ := ek_ok hh
    obtain ⟨a, j1, e1, hh⟩ := eb_ok hh
    obtain ⟨k3, hh⟩ := ek_ok hh
    obtain ⟨b, j2, e2, hh⟩ := eb_ok hh
    obtain ⟨k4, hh⟩ := ek_ok hh
    injection hh with hh
    injection hh with h1 h2
    subst h1 h2
    have := hG _ _ _ _ e1
    have := hG _ _ _ _ e2
    have s0 := h.k c6 (by omega)
    have s1 := h.k2 (i + 2) k1 (by omega) rfl
    have s2 := h.k2 (i + 3) k2 (by omega) rfl
    have s3 := h.k k3 (by omega)
    have s4 := h.k k4 (by omega)
    show xP X i + (if xK X i = 29 then cw X a + 4 else if xK X i = 30 then cw X a + cw X b + 5 else _) ≤ _
    rw [if_neg c5, if_pos c6]
    omega
  rw [if_neg c6] at hh
  by_cases c7 : xK X i = 58
  · rw [if_pos c7] at hh
    obtain ⟨a, j1, e1, hh⟩ := eb_ok hh
    injection hh with hh
    injection hh with h1 h2
    subst h1 h2
    have := hG _ _ _ _ e1
    have s0 := h.k c7 (by omega)
    show xP X i + (cw X a + 1) ≤ _
    omega
  rw [if_neg c7] at hh
  by_cases c8 : xK X i = 31 ∨ xK X i = 32
  · rw [if_pos c8] at hh
    obtain ⟨k1, hh⟩ := ek_ok hh
    obtain ⟨a, j1, e1, hh⟩ := eb_ok hh
    obtain ⟨k2, hh⟩ := ek_ok hh
    injection hh with hh
    injection hh with h1 h2
    subst h1 h2
    have := hG _ _ _ _ e1
    have s0 := (h i (by omega)).1
    have s1 := h.k2 (i + 2) k1 (by omega) rfl
    have s2 := h.k k2 (by omega)
    show xP X i + (if xK X i = 29 then cw X a + 4 else if xK X i = 30 then _ else cw X a + 3) ≤ _
    rw [if_neg c5, if_neg c6]
    omega
  · rw [if_neg c8] at hh; cases hh
theorem tails_cw (h : SPc X) {G : Nat → Nat → ER} (hG : Gcw X G) : ∀ (fl : Nat) (t : Tr) (lo i : Nat) (tr : Tr) (j : Nat), xP X lo + cw X t ≤ xP X i → pTails (xK X) G fl t i = .ok (tr, j) → xP X lo + cw X tr ≤ xP X j := by
  intro fl
  induction fl with
  | zero => intro t lo i tr j _ hh; cases hh
  | succ fl ih =>
    intro t lo i tr j hw hh
    rw [pTails] at hh
    have ct : cw X (tD 3 i 0 t tZ) = cw X t + (if xK X i = 61 then 1 else 2) := rfl
    by_cases c1 : xK X i = 49 ∨ xK X i = 33
    · rw [if_pos c1] at hh
      obtain ⟨k1, hh⟩ := ek_ok hh
      have s0 := (h i (by omega)).1
      have s1 := h.k2 (i + 2) k1 (by omega) rfl
      exact ih (tD 3 i 0 t tZ) lo (i + 2) tr j (by rw [ct, if_neg (by omega)]; omega) hh
    rw [if_neg c1] at hh
    by_cases c2 : xK X i = 61
    · rw [if_pos c2] at hh
      have s0 := h.k c2 (by omega)
      exact ih (tD 3 i 0 t tZ) lo (i + 1) tr j (by rw [ct, if_pos c2]; omega) hh
    rw [if_neg c2] at hh
    by_cases c3 : xK X i = 44
    · rw [if_pos c3] at hh
      obtain ⟨a, j1, e1, hh⟩ := eb_ok hh
      obtain ⟨k1, hh⟩ := ek_ok hh
      have := hG _ _ _ _ e1
      have s0 := h.k c3 (by omega)
      have s1 := h.k k1 (by omega)
      have c4 : cw X (tD 4 i 0 t a) = cw X t + cw X a + 2 := rfl
      exact ih (tD 4 i 0 t a) lo (j1 + 1) tr j (by omega) hh
    rw [if_neg c3] at hh
    injection hh with hh
    injection hh with h1 h2
    subst h1 h2
    exact hw
theorem term_cw (h : SPc X) {G : Nat → Nat → ER} (hG : Gcw X G) (i : Nat) (tr : Tr) (j : Nat) (hh : pTerm (xK X) G i = .ok (tr, j)) : xP X i + cw X tr ≤ xP X j := by
  unfold pTerm at hh
  obtain ⟨t, j1, e1, hh⟩ := eb_ok hh
  exact tails_cw h hG _ _ i _ _ _ (prim_cw h hG _ _ _ e1) hh
theorem ops_cw (h : SPc X) {G : Nat → Nat → ER} (hG : Gcw X G) : ∀ (fl : Nat) (t : Tr) (lo i : Nat) (tr : Tr) (j : Nat), xP X lo + cw X t ≤ xP X i → pOps (xK X) G fl t i = .ok (tr, j) → xP X lo + cw X tr ≤ xP X j := by
  intro fl
  induction fl with
  | zero => intro t lo i tr j _ hh; cases hh
  | succ fl ih =>
    intro t lo i tr j hw hh
    rw [pOps] at hh
    by_cases c1 : isOp (xK X i)
    · rw [if_pos c1] at hh
      obtain ⟨a, j1, e1, hh⟩ := eb_ok hh
      have g1 := term_cw h hG _ _ _ e1
      have n0 : xK X i ≠ 0 := fun z => by
        rw [z] at c1
        revert c1
        decide
      have s0 := (h i n0).1
      have c4 : cw X (tD 5 i (xK X i) t a) = cw X t + cw X a + 1 := rfl
      exact ih (tD 5 i (xK X i) t a) lo j1 tr j (by omega) hh
    · rw [if_neg c1] at hh
      injection hh with hh
      injection hh with h1 h2
      subst h1 h2
      exact hw
theorem pEx_cw (h : SPc X) : ∀ m, Gcw X (pEx (xK X) m) := by
  intro m
  induction m with
  | zero => intro t i tr j hh; cases hh
  | succ m ih =>
    intro t i tr j hh
    rw [pEx] at hh
    by_cases c : t = 0
    · rw [if_pos c] at hh
      unfold pExpr at hh
      obtain ⟨a, j1, e1, hh⟩ := eb_ok hh
      exact ops_cw h ih _ _ i _ _ _ (term_cw h ih _ _ _ e1) hh
    · rw [if_neg c] at hh
      exact term_cw h ih _ _ _ hh
theorem ty_sp (h : SPc X) : ∀ (f : Nat) (c : Bool) (i j : Nat), pTy (xK X) f c i = .ok j → i ≤ j ∧ xP X i + (j - i) ≤ xP X j := by
  intro f
  induction f with
  | zero => intro c i j hh; cases hh
  | succ f ih =>
    intro c i j hh
    rw [pTy] at hh
    by_cases c1 : c = true ∧ xK X i = 3
    · rw [if_pos c1] at hh
      injection hh with hh
      subst hh
      have s0 := h.k c1.2 (by omega)
      have r := rgs_sp h 3 (i + 1)
      exact ⟨by omega, by omega⟩
    rw [if_neg c1] at hh
    have two : ∀ c', xK X i ≠ 0 → xK X (i + 1) = 4 → pTy (xK X) f c' (i + 2) = .ok j → i ≤ j ∧ xP X i + (j - i) ≤ xP X j := by
      intro c' k0 k4 e
      have s0 := (h i k0).1
      have s1 := h.k2 (i + 2) k4 (by omega) rfl
      have := ih c' _ _ e
      omega
    by_cases c2 : xK X i = 59 ∨ xK X i = 55
    · rw [if_pos c2] at hh
      by_cases c3 : xK X (i + 1) = 4
      · rw [if_pos c3] at hh
        exact two true (by omega) c3 hh
      · rw [if_neg c3] at hh; cases hh
    rw [if_neg c2] at hh
    by_cases c3 : xK X i = 60
    · rw [if_pos c3] at hh
      by_cases c4 : xK X (i + 1) = 4
      · rw [if_pos c4] at hh
        exact two false (by omega) c4 hh
      · rw [if_neg c4] at hh; cases hh
    rw [if_neg c3] at hh
    by_cases c4 : xK X i = 26
    · rw [if_pos c4] at hh
      injection hh with hh
      subst hh
      have s0 := h.k c4 (by omega)
      exact ⟨by omega, by omega⟩
    · rw [if_neg c4] at hh; cases hh
end WC
