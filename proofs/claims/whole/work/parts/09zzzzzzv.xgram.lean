/-! what the grammar tells of trees that are checked -/
def Gx (X : Lx) (G : Nat → Nat → ER) (m : Nat) : Prop := ∀ md i tr j, G md i = .ok (tr, j) → 1 ≤ m ∧ XG X tr (m - 1) (if md = 0 then 1 else 0)
section CXV
variable {X : Lx} {i j k m e c : Nat} {ta tb tr : Tr} {G : Nat → Nat → ER}
theorem XG_n {mo : Nat} : XG X (tD k i e ta tb) m mo = xgN X (XG X ta) (XG X tb) (isZ ta) k i e m mo := rfl
theorem XG.s1 (h : XG X tr m 0) : XG X tr m 1 := by
  induction tr using Tr_ind with
  | hz t hz =>
    unfold XG at h
    split at h
    · exact absurd rfl (hz _ _ _ _ _)
    · exact absurd h (by omega)
    · exact h.elim
  | h k i e ta tb _ _ =>
    rw [XG_n] at h ⊢
    unfold xgN at h ⊢
    rw [if_neg (by omega)] at h ⊢
    by_cases c5 : k = 5
    · subst c5
      rw [if_neg (by omega), if_neg (by omega), if_neg (by omega), if_neg (by omega), if_pos rfl] at h
      exact absurd h.1 (by omega)
    · simp only [c5, if_false] at h ⊢
      exact h
theorem XG.fs (tr : Tr) : ∀ (m mo : Nat), mo ≤ 1 → XG X tr m mo → pcT tr ≤ m ∧ fsL X tr := by
  induction tr using Tr_ind with
  | hz t hz =>
    intro m mo hm h
    unfold XG at h
    split at h
    · exact absurd rfl (hz _ _ _ _ _)
    · omega
    · exact h.elim
  | h k i e ta tb ihA ihB =>
    intro m mo hm h
    rw [XG_n] at h
    unfold xgN at h
    rw [if_neg (by omega)] at h
    rw [pcT_n, fsL_n]
    by_cases c1 : k = 1
    · subst c1
      rw [if_pos rfl] at h
      rw [if_neg (by omega), if_neg (by omega), if_neg (by omega), if_pos (by omega)]
      exact ⟨by omega, by omega⟩
    rw [if_neg c1] at h
    by_cases c2 : k = 2
    · rw [if_pos c2] at h
      have := ihA _ 1 (by omega) h.2.2
      rw [if_pos c2, if_pos (Or.inl c2)]
      exact ⟨by omega, this.2⟩
    rw [if_neg c2] at h
    by_cases c3 : k = 3
    · rw [if_pos c3] at h
      have := ihA _ 0 (by omega) h.1
      rw [if_neg c2, if_pos (Or.inl c3), if_pos (by omega)]
      exact this
    rw [if_neg c3] at h
    by_cases c4 : k = 4
    · rw [if_pos c4] at h
      have := ihA _ 0 (by omega) h.2.1
      rw [if_neg c2, if_pos (by omega), if_pos (by omega)]
      exact this
    rw [if_neg c4] at h
    by_cases c5 : k = 5
    · rw [if_pos c5] at h
      have := ihA _ 1 (by omega) h.2.1
      rw [if_neg c2, if_pos (by omega), if_pos (by omega)]
      exact this
    rw [if_neg c5] at h
    rw [if_neg c2, if_neg (by omega), if_neg (by omega)]
    refine ⟨by omega, ?_⟩
    by_cases c8 : k = 8
    · rw [if_neg (by omega), if_neg (by omega), if_pos c8] at h
      rw [if_pos (by omega)]
      omega
    · rw [if_neg (by omega)]
      trivial
theorem xg_args (hG : Gx X G m) : ∀ (f q i : Nat) (tr : Tr) (j : Nat), pArgs (xK X) (G 0) c f q i = .ok (tr, j) → (isZ tr = true ∨ 1 ≤ m) ∧ XG X tr (m - 1) 2 := by
  intro f
  induction f with
  | zero => intro q i tr j h; cases h
  | succ f ih =>
    intro q i tr j h
    rw [pArgs] at h
    split at h
    · cases h
      exact ⟨Or.inl rfl, rfl⟩
    · split at h
      · cases h
      · split at h
        · cases h
        · obtain ⟨a, j2, h1, h2⟩ := eb_ok h
          obtain ⟨r, j3, h3, h4⟩ := eb_ok h2
          cases h4
          rw [XG_n]
          unfold xgN
          rw [if_pos rfl]
          exact ⟨Or.inr (hG _ _ _ _ h1).1, rfl, (hG _ _ _ _ h1).2, (ih _ _ _ _ h3).2⟩
/-- a PRIMARY; m levels may lie in it -/
theorem xg_prim (hG : Gx X G m) (h : pPrim (xK X) G i = .ok (tr, j)) : XG X tr m 0 := by
  have rb := rgs_b (xK X) 3 (i + 1)
  unfold pPrim at h
  by_cases c42 : xK X i = 42
  · rw [if_pos c42] at h
    obtain ⟨a, j2, h1, h2⟩ := eb_ok h
    obtain ⟨_, h3⟩ := ek_ok h2
    cases h3
    exact ⟨c42, hG _ _ _ _ h1⟩
  rw [if_neg c42] at h
  by_cases c5 : xK X i = 5 ∨ xK X i = 27 ∨ xK X i = 34 ∨ xK X i = 35
  · rw [if_pos c5] at h
    cases h
    show xK X i = 5 ∨ xK X i = 27 ∨ xK X i = 34 ∨ xK X i = 35 ∨ xK X i = 2
    omega
  rw [if_neg c5] at h
  by_cases c2 : xK X i = 2
  · rw [if_pos c2] at h
    split at h
    · obtain ⟨_, h2⟩ := ek_ok h
      obtain ⟨a, j2, h3, h4⟩ := eb_ok h2
      cases h4
      have ar := xg_args hG _ _ _ _ _ h3
      exact ⟨c2, ar.1, ar.2, rb.1, fun q hq => rb.2 q hq⟩
    · cases h
      show xK X i = 5 ∨ xK X i = 27 ∨ xK X i = 34 ∨ xK X i = 35 ∨ xK X i = 2
      omega
  rw [if_neg c2] at h
  by_cases c28 : xK X i = 28
  · rw [if_pos c28] at h
    obtain ⟨h4, h⟩ := ek_ok h
    obtain ⟨h3, h⟩ := ek_ok h
    by_cases cu : xK X (i + 3 + rgs (xK X) 3 (i + 3)) = 49
    · rw [if_pos cu] at h
      obtain ⟨h2, h⟩ := ek_ok h
      obtain ⟨_, h⟩ := ek_ok h
      obtain ⟨a, j2, h5, h⟩ := eb_ok h
      obtain ⟨_, h⟩ := ek_ok h
      cases h
      refine ⟨c28, Or.inr (hG _ _ _ _ h5).1, rfl, h4, h3, ?_⟩
      rw [if_pos cu]
      exact ⟨h2, (hG _ _ _ _ h5).2⟩
    · rw [if_neg cu] at h
      obtain ⟨h2, h⟩ := ek_ok h
      obtain ⟨a, j2, h5, h⟩ := eb_ok h
      cases h
      have ar := xg_args hG _ _ _ _ _ h5
      refine ⟨c28, ar.1, rfl, h4, h3, ?_⟩
      rw [if_neg cu]
      exact ⟨h2, ar.2⟩
  rw [if_neg c28] at h
  by_cases c29 : xK X i = 29
  · rw [if_pos c29] at h
    obtain ⟨h4, h⟩ := ek_ok h
    obtain ⟨_, h⟩ := ek_ok h
    obtain ⟨a, j2, h5, h⟩ := eb_ok h
    obtain ⟨_, h⟩ := ek_ok h
    cases h
    exact ⟨(hG _ _ _ _ h5).1, (hG _ _ _ _ h5).2, Or.inl ⟨Or.inl c29, h4⟩, fun w => by omega⟩
  rw [if_neg c29] at h
  by_cases c30 : xK X i = 30
  · rw [if_pos c30] at h
    obtain ⟨h4, h⟩ := ek_ok h
    obtain ⟨_, h⟩ := ek_ok h
    obtain ⟨a, j2, h5, h⟩ := eb_ok h
    obtain ⟨_, h⟩ := ek_ok h
    obtain ⟨b, j3, h6, h⟩ := eb_ok h
    obtain ⟨_, h⟩ := ek_ok h
    cases h
    exact ⟨(hG _ _ _ _ h5).1, (hG _ _ _ _ h5).2, Or.inl ⟨Or.inr c30, h4⟩, fun _ => (hG _ _ _ _ h6).2⟩
  rw [if_neg c30] at h
  by_cases c58 : xK X i = 58
  · rw [if_pos c58] at h
    obtain ⟨a, j2, h5, h⟩ := eb_ok h
    cases h
    exact ⟨rfl, c58, hG _ _ _ _ h5⟩
  rw [if_neg c58] at h
  by_cases c31 : xK X i = 31 ∨ xK X i = 32
  · rw [if_pos c31] at h
    obtain ⟨_, h⟩ := ek_ok h
    obtain ⟨a, j2, h5, h⟩ := eb_ok h
    obtain ⟨_, h⟩ := ek_ok h
    cases h
    exact ⟨(hG _ _ _ _ h5).1, (hG _ _ _ _ h5).2, Or.inr c31, fun w => by omega⟩
  rw [if_neg c31] at h
  cases h
theorem xg_tails (hG : Gx X G m) : ∀ (f : Nat) (tr : Tr) (i : Nat) (t' : Tr) (j : Nat), XG X tr m 0 → pTails (xK X) G f tr i = .ok (t', j) → XG X t' m 0 := by
  intro f
  induction f with
  | zero => intro tr i t' j _ h; cases h
  | succ f ih =>
    intro tr i t' j h0 h
    rw [pTails] at h
    split at h
    · rename_i c
      obtain ⟨h2, h⟩ := ek_ok h
      exact ih _ _ t' j (show XG X (tD 3 i 0 tr tZ) m 0 from ⟨h0, Or.inr ⟨c, h2⟩⟩) h
    · split at h
      · rename_i c
        exact ih _ _ t' j (show XG X (tD 3 i 0 tr tZ) m 0 from ⟨h0, Or.inl c⟩) h
      · split at h
        · rename_i c
          obtain ⟨a, j2, h5, h⟩ := eb_ok h
          obtain ⟨_, h⟩ := ek_ok h
          exact ih _ _ t' j (show XG X (tD 4 i 0 tr a) m 0 from ⟨c, h0, hG _ _ _ _ h5⟩) h
        · cases h
          exact h0
theorem xg_term (hG : Gx X G m) (h : pTerm (xK X) G i = .ok (tr, j)) : XG X tr m 0 := by
  unfold pTerm at h
  obtain ⟨a, j2, h1, h2⟩ := eb_ok h
  exact xg_tails hG _ _ _ _ _ (xg_prim hG h1) h2
theorem xg_ops (hG : Gx X G m) : ∀ (f : Nat) (tr : Tr) (i : Nat) (t' : Tr) (j : Nat), XG X tr m 1 → pOps (xK X) G f tr i = .ok (t', j) → XG X t' m 1 := by
  intro f
  induction f with
  | zero => intro tr i t' j _ h; cases h
  | succ f ih =>
    intro tr i t' j h0 h
    rw [pOps] at h
    split at h
    · rename_i c
      obtain ⟨a, j2, h1, h2⟩ := eb_ok h
      have c' : xK X i = 53 ∨ xK X i = 54 ∨ xK X i = 55 ∨ xK X i = 56 ∨ xK X i = 57 ∨ xK X i = 62 ∨ xK X i = 51 := c
      exact ih _ _ t' j (show XG X (tD 5 i (xK X i) tr a) m 1 from ⟨rfl, h0, xg_term hG h1, by omega⟩) h2
    · cases h
      exact h0
theorem pEx_xg : ∀ m, Gx X (pEx (xK X) m) m := by
  intro m
  induction m with
  | zero => intro md i tr j h; cases h
  | succ m ih =>
    intro md i tr j h
    rw [pEx] at h
    refine ⟨by omega, ?_⟩
    show XG X tr m _
    split at h
    · rename_i c
      rw [if_pos c]
      unfold pExpr at h
      obtain ⟨a, j2, h1, h2⟩ := eb_ok h
      exact xg_ops ih _ _ _ _ _ (xg_term ih h1).s1 h2
    · rename_i c
      rw [if_neg c]
      exact xg_term ih h
end CXV
