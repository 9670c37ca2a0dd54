/-! what the grammar of STEPS gives lies in order -/
section WH
variable {X : Lx}
theorem ty_ok : ∀ (f i j : Nat), pTy (xK X) f false i = .ok j → tyW X f i ∧ j = tyE X f i := by
  intro f
  induction f with
  | zero => intro i j h; cases h
  | succ f ih =>
    intro i j h
    rw [pTy, if_neg (show ¬ (false = true ∧ xK X i = 3) from fun q => absurd q.1 (by decide))] at h
    rw [tyE]
    by_cases c1 : xK X i = 59 ∨ xK X i = 55
    · rw [if_pos c1] at h
      by_cases c2 : xK X (i + 1) = 4
      · rw [if_pos c2] at h
        have n26 : ¬ xK X i = 26 := by omega
        rw [if_neg n26]
        by_cases c3 : xK X (i + 2) = 3
        · have ti : tiQ X i := ⟨by omega, c3⟩
          rw [if_pos ti]
          cases f with
          | zero => cases h
          | succ f' =>
            rw [pTy, if_pos ⟨rfl, c3⟩, show i + 2 + 1 = i + 3 from rfl] at h
            injection h with h
            exact ⟨Or.inr ⟨by omega, Or.inl ti⟩, by omega⟩
        · have nti : ¬ tiQ X i := fun q => c3 q.2
          rw [if_neg nti]
          rw [pTy_cell c3] at h
          obtain ⟨h1, h2⟩ := ih _ _ h
          exact ⟨Or.inr ⟨by omega, Or.inr ⟨nti, h1⟩⟩, h2⟩
      · rw [if_neg c2] at h; cases h
    rw [if_neg c1] at h
    by_cases c2 : xK X i = 60
    · rw [if_pos c2] at h
      by_cases c3 : xK X (i + 1) = 4
      · rw [if_pos c3] at h
        have nti : ¬ tiQ X i := fun q => q.1 c2
        rw [if_neg (show ¬ xK X i = 26 by omega), if_neg nti]
        obtain ⟨h1, h2⟩ := ih _ _ h
        exact ⟨Or.inr ⟨by omega, Or.inr ⟨nti, h1⟩⟩, h2⟩
      · rw [if_neg c3] at h; cases h
    rw [if_neg c2] at h
    by_cases c3 : xK X i = 26
    · rw [if_pos c3] at h
      injection h with h
      rw [if_pos c3]
      exact ⟨Or.inl c3, by omega⟩
    · rw [if_neg c3] at h; cases h
theorem sn_ok {K : Nat → Nat} {k i : Nat} {x : SR} {r : Tr × Nat × Nat × Nat} (h : sn K k i x = .ok r) : K i = k ∧ x = .ok r := by
  unfold sn at h
  by_cases c : K i = k
  · rw [if_pos c] at h; exact ⟨c, h⟩
  · rw [if_neg c] at h; cases h
theorem sb_ok {x : SR} {k : Tr → Nat → Nat → Nat → SR} {r : Tr × Nat × Nat × Nat} (h : sb x k = .ok r) : ∃ t i v g, x = .ok (t, i, v, g) ∧ k t i v g = .ok r := by
  unfold sb at h
  split at h
  · cases h
  · exact ⟨_, _, _, _, rfl, h⟩
theorem se_ok {x : ER} {k : Tr → Nat → SR} {r : Tr × Nat × Nat × Nat} (h : se x k = .ok r) : ∃ t i, x = .ok (t, i) ∧ k t i = .ok r := by
  unfold se at h
  split at h
  · cases h
  · exact ⟨_, _, rfl, h⟩
theorem sy_ok {x : Except Nat Nat} {k : Nat → SR} {r : Tr × Nat × Nat × Nat} (h : sy x k = .ok r) : ∃ i, x = .ok i ∧ k i = .ok r := by
  unfold sy at h
  split at h
  · cases h
  · exact ⟨_, rfl, h⟩
abbrev Eok (X : Lx) (E : Nat → ER) : Prop := ∀ i tr j, E i = .ok (tr, j) → (Wf X tr false i j ∧ dpT tr ≤ 40)
abbrev Bok (X : Lx) (B : Nat → Nat → Nat → SR) (n : Nat) : Prop := ∀ i v g tr j v' g', v ≤ 20 → g ≤ 8 → B i v g = .ok (tr, j, v', g') → (Ws X tr 2 i j v g v' g' ∧ bdT tr ≤ n) ∧ v' ≤ 20 ∧ g' ≤ 8 ∧ isZ tr = false
theorem wf_nz {t : Tr} {a b : Nat} (h : Wf X t false a b) : isZ t = false := by
  unfold isZ
  split
  · exact absurd h.1 (by decide)
  · rfl
theorem step_ok {E : Nat → ER} {B : Nat → Nat → Nat → SR} {n : Nat} (hE : Eok X E) (hB : Bok X B n) (i v g : Nat) (tr : Tr) (j v' g' : Nat) (hv : v ≤ 20) (hg : g ≤ 8) (h : pStep (xK X) E B i v g = .ok (tr, j, v', g')) : (Ws X tr 0 i j v g v' g' ∧ bdT tr ≤ n) ∧ v' ≤ 20 ∧ g' ≤ 8 := by
  have tt : isZ tZ = true := rfl
  unfold pStep at h
  by_cases c1 : xK X i = 15
  · rw [if_pos c1] at h
    by_cases c2 : v = 20
    · rw [if_pos c2] at h; cases h
    rw [if_neg c2] at h
    obtain ⟨k1, h⟩ := sn_ok h
    obtain ⟨k2, h⟩ := sn_ok h
    obtain ⟨j1, e1, h⟩ := sy_ok h
    obtain ⟨t1, t2⟩ := ty_ok _ _ _ e1
    by_cases c3 : xK X j1 = 50
    · rw [if_pos c3] at h
      obtain ⟨a, j2, e2, h⟩ := se_ok h
      obtain ⟨k3, h⟩ := sn_ok h
      injection h with h
      injection h with h1 h
      injection h with h2 h
      injection h with h3 h4
      subst h1 h2 h3 h4
      have g1 := hE _ _ _ e2
      refine ⟨⟨⟨rfl, rfl, by omega, rfl, rfl, t1, ?_⟩, Nat.zero_le _⟩, by omega, hg⟩
      rw [wf_nz g1.1, if_neg (by decide), ← t2]
      exact ⟨j2, g1, by omega⟩
    · rw [if_neg c3] at h
      obtain ⟨k3, h⟩ := sn_ok h
      injection h with h
      injection h with h1 h
      injection h with h2 h
      injection h with h3 h4
      subst h1 h2 h3 h4
      refine ⟨⟨⟨rfl, rfl, by omega, rfl, rfl, t1, ?_⟩, Nat.zero_le _⟩, by omega, hg⟩
      rw [tt, if_pos rfl]
      omega
  rw [if_neg c1] at h
  by_cases c2 : xK X i = 18
  · rw [if_pos c2] at h
    obtain ⟨a, j1, e1, h⟩ := se_ok h
    obtain ⟨b, j2, v2, g2, e2, h⟩ := sb_ok h
    injection h with h
    injection h with h1 h
    injection h with h2 h
    injection h with h3 h4
    subst h1 h2 h3 h4
    have q1 := hE _ _ _ e1
    have q2 := hB _ _ _ _ _ _ _ hv hg e2
    exact ⟨⟨⟨rfl, j1, q1, q2.1.1⟩, q2.1.2⟩, q2.2.1, q2.2.2.1⟩
  rw [if_neg c2] at h
  by_cases c3 : xK X i = 16
  · rw [if_pos c3] at h
    obtain ⟨a, j1, e1, h⟩ := se_ok h
    obtain ⟨b, j2, v2, g2, e2, h⟩ := sb_ok h
    have q1 := hE _ _ _ e1
    have q2 := hB _ _ _ _ _ _ _ hv hg e2
    by_cases c4 : xK X j2 = 17
    · rw [if_pos c4] at h
      obtain ⟨b2, j3, v3, g3, e3, h⟩ := sb_ok h
      injection h with h
      injection h with h1 h
      injection h with h2 h
      injection h with h3 h4
      subst h1 h2 h3 h4
      have q3 := hB _ _ _ _ _ _ _ q2.2.1 q2.2.2.1 e3
      have w3 : Ws X (tD 12 0 0 b b2) 3 j1 j3 v g v3 g3 := by
        refine ⟨rfl, j2, v2, g2, q2.1.1, ?_⟩
        rw [q3.2.2.2, if_neg (by decide)]
        exact q3.1.1
      refine ⟨⟨⟨rfl, j1, q1, w3⟩, ?_⟩, q3.2.1, q3.2.2.1⟩
      show max (bdT b) (bdT b2) ≤ n
      have := q2.1.2
      have := q3.1.2
      omega
    · rw [if_neg c4] at h
      injection h with h
      injection h with h1 h
      injection h with h2 h
      injection h with h3 h4
      subst h1 h2 h3 h4
      have w3 : Ws X (tD 12 0 0 b tZ) 3 j1 j2 v g v2 g2 := by
        refine ⟨rfl, j2, v2, g2, q2.1.1, ?_⟩
        rw [tt, if_pos rfl]
        exact ⟨rfl, rfl, Nat.le_refl _⟩
      refine ⟨⟨⟨rfl, j1, q1, w3⟩, ?_⟩, q2.2.1, q2.2.2.1⟩
      show max (bdT b) 0 ≤ n
      have := q2.1.2
      omega
  rw [if_neg c3] at h
  by_cases c4 : xK X i = 19
  · rw [if_pos c4] at h
    by_cases c5 : xK X (i + 1) = 46
    · rw [if_pos c5] at h
      injection h with h
      injection h with h1 h
      injection h with h2 h
      injection h with h3 h4
      subst h1 h2 h3 h4
      refine ⟨⟨⟨rfl, rfl, rfl, ?_⟩, Nat.zero_le _⟩, hv, hg⟩
      rw [tt, if_pos rfl]
      omega
    · rw [if_neg c5] at h
      obtain ⟨a, j1, e1, h⟩ := se_ok h
      obtain ⟨k1, h⟩ := sn_ok h
      injection h with h
      injection h with h1 h
      injection h with h2 h
      injection h with h3 h4
      subst h1 h2 h3 h4
      have q1 := hE _ _ _ e1
      refine ⟨⟨⟨rfl, rfl, rfl, ?_⟩, Nat.zero_le _⟩, hv, hg⟩
      rw [wf_nz q1.1, if_neg (by decide)]
      exact ⟨j1, q1, by omega⟩
  rw [if_neg c4] at h
  by_cases c5 : xK X i = 21
  · rw [if_pos c5] at h
    by_cases c6 : g = 8
    · rw [if_pos c6] at h; cases h
    rw [if_neg c6] at h
    obtain ⟨k1, h⟩ := sn_ok h
    obtain ⟨b, j2, v2, g2, e2, h⟩ := sb_ok h
    injection h with h
    injection h with h1 h
    injection h with h2 h
    injection h with h3 h4
    subst h1 h2 h3 h4
    have q2 := hB _ _ _ _ _ _ _ hv (by omega) e2
    exact ⟨⟨⟨rfl, by omega, q2.1.1⟩, q2.1.2⟩, q2.2.1, q2.2.2.1⟩
  rw [if_neg c5] at h
  by_cases c6 : xK X i = 22
  · rw [if_pos c6] at h
    obtain ⟨k1, h⟩ := sn_ok h
    obtain ⟨k2, h⟩ := sn_ok h
    injection h with h
    injection h with h1 h
    injection h with h2 h
    injection h with h3 h4
    subst h1 h2 h3 h4
    exact ⟨⟨⟨rfl, rfl, rfl, by omega⟩, Nat.zero_le _⟩, hv, hg⟩
  rw [if_neg c6] at h
  by_cases c7 : xK X i = 23
  · rw [if_pos c7] at h
    obtain ⟨b, j2, v2, g2, e2, h⟩ := sb_ok h
    obtain ⟨k1, h⟩ := sn_ok h
    obtain ⟨b2, j3, v3, g3, e3, h⟩ := sb_ok h
    injection h with h
    injection h with h1 h
    injection h with h2 h
    injection h with h3 h4
    subst h1 h2 h3 h4
    have q2 := hB _ _ _ _ _ _ _ hv hg e2
    have q3 := hB _ _ _ _ _ _ _ q2.2.1 q2.2.2.1 e3
    refine ⟨⟨⟨rfl, j2, v2, g2, q2.1.1, q3.1.1⟩, ?_⟩, q3.2.1, q3.2.2.1⟩
    show max (bdT b) (bdT b2) ≤ n
    have := q2.1.2
    have := q3.1.2
    omega
  rw [if_neg c7] at h
  by_cases c8 : xK X i = 20 ∨ xK X i = 25
  · rw [if_pos c8] at h
    obtain ⟨a, j1, e1, h⟩ := se_ok h
    obtain ⟨k1, h⟩ := sn_ok h
    injection h with h
    injection h with h1 h
    injection h with h2 h
    injection h with h3 h4
    subst h1 h2 h3 h4
    have q1 := hE _ _ _ e1
    by_cases c9 : xK X i = 20
    · rw [if_pos c9]
      exact ⟨⟨⟨rfl, rfl, rfl, j1, q1, by omega⟩, Nat.zero_le _⟩, hv, hg⟩
    · rw [if_neg c9]
      exact ⟨⟨⟨rfl, rfl, rfl, j1, q1, by omega⟩, Nat.zero_le _⟩, hv, hg⟩
  rw [if_neg c8] at h
  obtain ⟨a, j1, e1, h⟩ := se_ok h
  have q1 := hE _ _ _ e1
  by_cases c9 : xK X j1 = 50
  · rw [if_pos c9] at h
    obtain ⟨b, j2, e2, h⟩ := se_ok h
    obtain ⟨k1, h⟩ := sn_ok h
    injection h with h
    injection h with h1 h
    injection h with h2 h
    injection h with h3 h4
    subst h1 h2 h3 h4
    have q2 := hE _ _ _ e2
    exact ⟨⟨⟨rfl, rfl, rfl, j1, j2, q1, q2, by omega⟩, Nat.zero_le _⟩, hv, hg⟩
  · rw [if_neg c9] at h
    obtain ⟨k1, h⟩ := sn_ok h
    injection h with h
    injection h with h1 h
    injection h with h2 h
    injection h with h3 h4
    subst h1 h2 h3 h4
    exact ⟨⟨⟨rfl, rfl, rfl, j1, q1, by omega⟩, Nat.zero_le _⟩, hv, hg⟩
theorem steps_ok {S : Nat → Nat → Nat → SR} {n : Nat} (hS : ∀ i v g tr j v' g', v ≤ 20 → g ≤ 8 → S i v g = .ok (tr, j, v', g') → (Ws X tr 0 i j v g v' g' ∧ bdT tr ≤ n) ∧ v' ≤ 20 ∧ g' ≤ 8) : ∀ (fl i v g : Nat) (tr : Tr) (j v' g' : Nat), v ≤ 20 → g ≤ 8 → pSteps (xK X) S fl i v g = .ok (tr, j, v', g') → (Ws X tr 1 i j v g v' g' ∧ bdT tr ≤ n) ∧ v' ≤ 20 ∧ g' ≤ 8 := by
  intro fl
  induction fl with
  | zero => intro i v g tr j v' g' _ _ h; cases h
  | succ fl ih =>
    intro i v g tr j v' g' hv hg h
    rw [pSteps] at h
    by_cases c1 : xK X i = 41
    · rw [if_pos c1] at h
      injection h with h
      injection h with h1 h
      injection h with h2 h
      injection h with h3 h4
      subst h1 h2 h3 h4
      exact ⟨⟨⟨rfl, Nat.le_refl _, rfl, rfl⟩, Nat.zero_le _⟩, hv, hg⟩
    rw [if_neg c1] at h
    obtain ⟨s, j1, v1, g1, e1, h⟩ := sb_ok h
    obtain ⟨r, j2, v2, g2, e2, h⟩ := sb_ok h
    injection h with h
    injection h with h1 h
    injection h with h2 h
    injection h with h3 h4
    subst h1 h2 h3 h4
    have q1 := hS _ _ _ _ _ _ _ hv hg e1
    have q2 := ih _ _ _ _ _ _ _ q1.2.1 q1.2.2 e2
    refine ⟨⟨⟨rfl, j1, v1, g1, q1.1.1, q2.1.1⟩, ?_⟩, q2.2.1, q2.2.2⟩
    show max (bdT s) (bdT r) ≤ n
    have := q1.1.2
    have := q2.1.2
    omega
theorem pBl_ok : ∀ m, m ≤ 20 → Bok X (pBl (xK X) m) m := by
  intro m
  induction m with
  | zero => intro _ i v g tr j v' g' _ _ h; cases h
  | succ m ih =>
    intro hm i v g tr j v' g' hv hg h
    rw [pBl] at h
    obtain ⟨k1, h⟩ := sn_ok h
    obtain ⟨s, j1, v1, g1, e1, h⟩ := sb_ok h
    obtain ⟨k2, h⟩ := sn_ok h
    injection h with h
    injection h with h1 h
    injection h with h2 h
    injection h with h3 h4
    subst h1 h2 h3 h4
    have hE : Eok X (pEx (xK X) m 0) := fun i tr j h => by
      have := pEx_ok (X := X) m 0 i tr j h
      exact ⟨this.1, by have := this.2; omega⟩
    have q := steps_ok (fun i v g tr j v' g' a b h => step_ok hE (ih (by omega)) i v g tr j v' g' a b h) _ _ _ _ _ _ _ _ hv hg e1
    refine ⟨⟨⟨rfl, q.1.1, by omega⟩, ?_⟩, q.2.1, q.2.2, rfl⟩
    show bdT s + 1 ≤ m + 1
    have := q.1.2
    omega
end WH
