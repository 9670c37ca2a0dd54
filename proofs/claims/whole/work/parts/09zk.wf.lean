/-! what the grammar gives lies in order over its tokens; places of tokens differ -/
section WG
variable {X : Lx} {f : Nat → Int32} {z : Nat}
theorem PI_mk (hz : z ≤ 4000) : PI (mkX f z) := by
  have tf' := tk_facts (f := f) hz
  have st : ∀ i, i < nT f z → tkAt f z (sk f z 0) i < tkAt f z (sk f z 0) (i + 1) := by
    intro i hi
    have a := aft_in (f := f) hz (tf'.1 i hi)
    rw [tkAt_s]
    unfold nq
    omega
  have mono : ∀ k i, i + k < nT f z → 0 < k → tkAt f z (sk f z 0) i < tkAt f z (sk f z 0) (i + k) := by
    intro k
    induction k with
    | zero => intro i _ h; omega
    | succ k ih =>
      intro i hi _
      by_cases hk : k = 0
      · subst hk
        exact st i (by omega)
      · have h1 := ih i (by omega) (by omega)
        have h2 := st (i + k) (by omega)
        rw [show i + (k + 1) = i + k + 1 from by omega]
        omega
  intro q q' h1 h2 h
  have h1' : q < nT f z := h1
  have h2' : q' < nT f z := h2
  have p1 := tf'.1 q h1'
  have p2 := tf'.1 q' h2'
  have e : tkAt f z (sk f z 0) q = tkAt f z (sk f z 0) q' := nI_inj (by omega) (by omega) h
  rcases Nat.lt_trichotomy q q' with g | g | g
  · have := mono (q' - q) q (by omega) (by omega)
    rw [show q + (q' - q) = q' from by omega] at this
    omega
  · exact g
  · have := mono (q - q') q' (by omega) (by omega)
    rw [show q' + (q - q') = q from by omega] at this
    omega
theorem xP_mk (hz : z ≤ 4000) : ∀ q, q < xn (mkX f z) → xP (mkX f z) q < 100000 := by
  intro q hq
  have := (tk_facts (f := f) hz).1 q hq
  show tkAt f z (sk f z 0) q < 100000
  omega
/-- what a reader of EXPRS or TERMS may give -/
def Gok (X : Lx) (G : Nat → Nat → ER) (n : Nat) : Prop := ∀ t i tr j, G t i = .ok (tr, j) → Wf X tr false i j ∧ dpT tr ≤ n
theorem ek_ok {K : Nat → Nat} {k i : Nat} {x : ER} {r : Tr × Nat} (h : ek K k i x = .ok r) : K i = k ∧ x = .ok r := by
  unfold ek at h
  by_cases c : K i = k
  · rw [if_pos c] at h; exact ⟨c, h⟩
  · rw [if_neg c] at h; cases h
theorem eb_ok {x : ER} {k : Tr → Nat → ER} {r : Tr × Nat} (h : eb x k = .ok r) : ∃ t i, x = .ok (t, i) ∧ k t i = .ok r := by
  unfold eb at h
  split at h
  · cases h
  · exact ⟨_, _, rfl, h⟩
theorem wf_z {a b : Nat} (h : a ≤ b) : Wf X tZ true a b := ⟨rfl, h⟩
theorem args_ok {G : Nat → Nat → ER} {n c : Nat} (hG : Gok X G n) : ∀ (fl q i : Nat) (tr : Tr) (j : Nat), pArgs (xK X) (G 0) c fl q i = .ok (tr, j) → i < j ∧ Wf X tr true i (j - 1) ∧ dpT tr ≤ n := by
  intro fl
  induction fl with
  | zero => intro q i tr j h; cases h
  | succ fl ih =>
    intro q i tr j h
    rw [pArgs] at h
    by_cases c1 : xK X i = c
    · rw [if_pos c1] at h
      injection h with h
      injection h with h1 h2
      subst h1 h2
      exact ⟨by omega, wf_z (by omega), Nat.zero_le _⟩
    rw [if_neg c1] at h
    by_cases c2 : q ≠ 0 ∧ xK X i ≠ 47
    · rw [if_pos c2] at h; cases h
    rw [if_neg c2] at h
    by_cases c3 : q = 8
    · rw [if_pos c3] at h; cases h
    rw [if_neg c3] at h
    obtain ⟨a, j1, e1, h⟩ := eb_ok h
    obtain ⟨r, j2, e2, h⟩ := eb_ok h
    injection h with h
    injection h with h1 h2
    subst h1 h2
    obtain ⟨g1, g2⟩ := hG _ _ _ _ e1
    obtain ⟨i1, i2, i3⟩ := ih _ _ _ _ e2
    have le := Wf_le2 g1
    refine ⟨by split at le <;> omega, ⟨rfl, _, j1, ?_, g1, i2⟩, ?_⟩
    · split <;> omega
    · rw [dpT_n, if_pos (by omega)]
      omega
theorem prim_ok {G : Nat → Nat → ER} {n : Nat} (hG : Gok X G n) (i : Nat) (tr : Tr) (j : Nat) (h : pPrim (xK X) G i = .ok (tr, j)) : Wf X tr false i j ∧ dpT tr ≤ n + 1 := by
  have e3 : ∀ q, rgs (xK X) 3 q ≤ 3 := fun q => rgs_le 3 q
  have z0 : dpT tZ = 0 := rfl
  unfold pPrim at h
  by_cases c1 : xK X i = 42
  · rw [if_pos c1] at h
    obtain ⟨a, j1, e1, h⟩ := eb_ok h
    obtain ⟨k1, h⟩ := ek_ok h
    injection h with h
    injection h with h1 h2
    subst h1 h2
    obtain ⟨g1, g2⟩ := hG _ _ _ _ e1
    refine ⟨⟨j1, rfl, g1, by omega⟩, ?_⟩
    rw [dpT_n, if_pos (by omega), z0]
    omega
  rw [if_neg c1] at h
  by_cases c2 : xK X i = 5 ∨ xK X i = 27 ∨ xK X i = 34 ∨ xK X i = 35
  · rw [if_pos c2] at h
    injection h with h
    injection h with h1 h2
    subst h1 h2
    refine ⟨⟨rfl, by omega⟩, ?_⟩
    rw [dpT_n, if_neg (by omega), if_neg (by omega), z0]
    omega
  rw [if_neg c2] at h
  by_cases c3 : xK X i = 2
  · rw [if_pos c3] at h
    by_cases c4 : xK X (i + 1) = 4 ∨ xK X (i + 1) = 42
    · rw [if_pos c4] at h
      obtain ⟨k1, h⟩ := ek_ok h
      obtain ⟨a, j1, e1, h⟩ := eb_ok h
      injection h with h
      injection h with h1 h2
      subst h1 h2
      obtain ⟨g1, g2, g3⟩ := args_ok hG _ _ _ _ _ e1
      refine ⟨⟨rfl, e3 _, j1 - 1, g2, by omega⟩, ?_⟩
      rw [dpT_n, if_neg (by omega), if_neg (by omega), z0]
      omega
    · rw [if_neg c4] at h
      injection h with h
      injection h with h1 h2
      subst h1 h2
      refine ⟨⟨rfl, by omega⟩, ?_⟩
      rw [dpT_n, if_neg (by omega), if_neg (by omega), z0]
      omega
  rw [if_neg c3] at h
  by_cases c4 : xK X i = 28
  · rw [if_pos c4] at h
    obtain ⟨k1, h⟩ := ek_ok h
    obtain ⟨k2, h⟩ := ek_ok h
    by_cases c5 : xK X (i + 3 + rgs (xK X) 3 (i + 3)) = 49
    · rw [if_pos c5] at h
      obtain ⟨k3, h⟩ := ek_ok h
      obtain ⟨k4, h⟩ := ek_ok h
      obtain ⟨a, j1, e1, h⟩ := eb_ok h
      obtain ⟨k5, h⟩ := ek_ok h
      injection h with h
      injection h with h1 h2
      subst h1 h2
      obtain ⟨g1, g2⟩ := hG _ _ _ _ e1
      refine ⟨⟨rfl, e3 _, j1, ?_, by omega⟩, ?_⟩
      · rw [if_pos c5]; exact g1
      · rw [dpT_n, if_neg (by omega), if_neg (by omega), z0]
        omega
    · rw [if_neg c5] at h
      obtain ⟨k3, h⟩ := ek_ok h
      obtain ⟨a, j1, e1, h⟩ := eb_ok h
      injection h with h
      injection h with h1 h2
      subst h1 h2
      obtain ⟨g1, g2, g3⟩ := args_ok hG _ _ _ _ _ e1
      refine ⟨⟨rfl, e3 _, j1 - 1, ?_, by omega⟩, ?_⟩
      · rw [if_neg c5]; exact g2
      · rw [dpT_n, if_neg (by omega), if_neg (by omega), z0]
        omega
  rw [if_neg c4] at h
  by_cases c5 : xK X i = 29
  · rw [if_pos c5] at h
    obtain ⟨k1, h⟩ := ek_ok h
    obtain ⟨k2, h⟩ := ek_ok h
    obtain ⟨a, j1, e1, h⟩ := eb_ok h
    obtain ⟨k3, h⟩ := ek_ok h
    injection h with h
    injection h with h1 h2
    subst h1 h2
    obtain ⟨g1, g2⟩ := hG _ _ _ _ e1
    refine ⟨⟨rfl, ?_⟩, ?_⟩
    · rw [if_pos c5]; exact ⟨j1, g1, by omega⟩
    · rw [dpT_n, if_neg (by omega), if_neg (by omega), z0]
      omega
  rw [if_neg c5] at h
  by_cases c6 : xK X i = 30
  · rw [if_pos c6] at h
    obtain ⟨k1, h⟩ := ek_ok h
    obtain ⟨k2, h⟩ := ek_ok h
    obtain ⟨a, j1, e1, h⟩ := eb_ok h
    obtain ⟨k3, h⟩ := ek_ok h
    obtain ⟨b, j2, e2, h⟩ := eb_ok h
    obtain ⟨k4, h⟩ := ek_ok h
    injection h with h
    injection h with h1 h2
    subst h1 h2
    obtain ⟨g1, g2⟩ := hG _ _ _ _ e1
    obtain ⟨g3, g4⟩ := hG _ _ _ _ e2
    refine ⟨⟨rfl, ?_⟩, ?_⟩
    · rw [if_neg c5, if_pos c6]; exact ⟨j1, j2, g1, g3, by omega⟩
    · rw [dpT_n, if_neg (by omega), if_neg (by omega)]
      omega
  rw [if_neg c6] at h
  by_cases c7 : xK X i = 58
  · rw [if_pos c7] at h
    obtain ⟨a, j1, e1, h⟩ := eb_ok h
    injection h with h
    injection h with h1 h2
    subst h1 h2
    obtain ⟨g1, g2⟩ := hG _ _ _ _ e1
    refine ⟨⟨rfl, g1⟩, ?_⟩
    rw [dpT_n, if_neg (by omega), if_neg (by omega), z0]
    omega
  rw [if_neg c7] at h
  by_cases c8 : xK X i = 31 ∨ xK X i = 32
  · rw [if_pos c8] at h
    obtain ⟨k1, h⟩ := ek_ok h
    obtain ⟨a, j1, e1, h⟩ := eb_ok h
    obtain ⟨k2, h⟩ := ek_ok h
    injection h with h
    injection h with h1 h2
    subst h1 h2
    obtain ⟨g1, g2⟩ := hG _ _ _ _ e1
    refine ⟨⟨rfl, ?_⟩, ?_⟩
    · rw [if_neg c5, if_neg c6]; exact ⟨j1, g1, by omega⟩
    · rw [dpT_n, if_neg (by omega), if_neg (by omega), z0]
      omega
  · rw [if_neg c8] at h; cases h
theorem tails_ok {G : Nat → Nat → ER} {n : Nat} (hG : Gok X G n) : ∀ (fl : Nat) (t : Tr) (lo i : Nat) (tr : Tr) (j : Nat), Wf X t false lo i → dpT t ≤ n + 1 → pTails (xK X) G fl t i = .ok (tr, j) → Wf X tr false lo j ∧ dpT tr ≤ n + 1 := by
  intro fl
  have z0 : dpT tZ = 0 := rfl
  induction fl with
  | zero => intro t lo i tr j _ _ h; cases h
  | succ fl ih =>
    intro t lo i tr j hw hd h
    rw [pTails] at h
    by_cases c1 : xK X i = 49 ∨ xK X i = 33
    · rw [if_pos c1] at h
      obtain ⟨k1, h⟩ := ek_ok h
      exact ih (tD 3 i 0 t tZ) lo (i + 2) tr j ⟨hw, by omega⟩ (by rw [dpT_n, if_pos (by omega), z0]; omega) h
    rw [if_neg c1] at h
    by_cases c2 : xK X i = 61
    · rw [if_pos c2] at h
      exact ih (tD 3 i 0 t tZ) lo (i + 1) tr j ⟨hw, by omega⟩ (by rw [dpT_n, if_pos (by omega), z0]; omega) h
    rw [if_neg c2] at h
    by_cases c3 : xK X i = 44
    · rw [if_pos c3] at h
      obtain ⟨a, j1, e1, h⟩ := eb_ok h
      obtain ⟨k1, h⟩ := ek_ok h
      obtain ⟨g1, g2⟩ := hG _ _ _ _ e1
      exact ih (tD 4 i 0 t a) lo (j1 + 1) tr j ⟨hw, j1, g1, by omega⟩ (by rw [dpT_n, if_neg (by omega), if_pos (by omega)]; omega) h
    rw [if_neg c3] at h
    injection h with h
    injection h with h1 h2
    subst h1 h2
    exact ⟨hw, hd⟩
theorem term_ok {G : Nat → Nat → ER} {n : Nat} (hG : Gok X G n) (i : Nat) (tr : Tr) (j : Nat) (h : pTerm (xK X) G i = .ok (tr, j)) : Wf X tr false i j ∧ dpT tr ≤ n + 1 := by
  unfold pTerm at h
  obtain ⟨t, j1, e1, h⟩ := eb_ok h
  obtain ⟨g1, g2⟩ := prim_ok hG _ _ _ e1
  exact tails_ok hG _ _ i _ _ _ g1 g2 h
theorem ops_ok {G : Nat → Nat → ER} {n : Nat} (hG : Gok X G n) : ∀ (fl : Nat) (t : Tr) (lo i : Nat) (tr : Tr) (j : Nat), Wf X t false lo i → dpT t ≤ n + 2 → pOps (xK X) G fl t i = .ok (tr, j) → Wf X tr false lo j ∧ dpT tr ≤ n + 2 := by
  intro fl
  induction fl with
  | zero => intro t lo i tr j _ _ h; cases h
  | succ fl ih =>
    intro t lo i tr j hw hd h
    rw [pOps] at h
    by_cases c1 : isOp (xK X i)
    · rw [if_pos c1] at h
      obtain ⟨a, j1, e1, h⟩ := eb_ok h
      obtain ⟨g1, g2⟩ := term_ok hG _ _ _ e1
      exact ih (tD 5 i (xK X i) t a) lo j1 tr j ⟨hw, g1⟩ (by rw [dpT_n, if_neg (by omega), if_pos (by omega)]; omega) h
    · rw [if_neg c1] at h
      injection h with h
      injection h with h1 h2
      subst h1 h2
      exact ⟨hw, hd⟩
/-- every EXPR and TERM that is read lies in order; how deep it is -/
theorem pEx_ok : ∀ m, Gok X (pEx (xK X) m) (2 * m) := by
  intro m
  induction m with
  | zero => intro t i tr j h; cases h
  | succ m ih =>
    intro t i tr j h
    rw [pEx] at h
    by_cases c : t = 0
    · rw [if_pos c] at h
      unfold pExpr at h
      obtain ⟨a, j1, e1, h⟩ := eb_ok h
      obtain ⟨g1, g2⟩ := term_ok ih _ _ _ e1
      have := ops_ok ih _ _ i _ _ _ g1 (by omega) h
      exact ⟨this.1, by have := this.2; omega⟩
    · rw [if_neg c] at h
      have := term_ok ih _ _ _ h
      exact ⟨this.1, by have := this.2; omega⟩
end WG
