/-! what the grammar tells of STEPS; dd: how deep their BLOCK lies -/
def sgN (X : Lx) (Ea Eb : Nat → Prop) (Sa Sb : Nat → Nat → Prop) (za zb : Bool) (k i dd mo : Nat) : Prop :=
  if mo = 3 then k = 12 ∧ Sa dd 2 ∧ (zb = true ∨ Sb dd 2)
  else if mo = 2 then k = 31 ∧ Sa dd 1 ∧ 1 ≤ dd ∧ dd ≤ 20
  else if mo = 1 then k = 11 ∧ Sa dd 0 ∧ Sb dd 1
  else if k = 20 then xK X (i + 1) = 2 ∧ tyP X 6 (i + 3) ∧ (za = true ∨ Ea dd)
  else if k = 21 then Ea dd ∧ Sb (dd + 1) 3
  else if k = 22 then Ea dd ∧ Sb (dd + 1) 2
  else if k = 23 then za = true ∨ Ea dd
  else if k = 24 ∨ k = 25 ∨ k = 30 then Ea dd
  else if k = 29 then Ea dd ∧ Eb dd
  else if k = 26 then xK X (i + 1) = 4 ∧ Sa (dd + 1) 2
  else if k = 27 then xK X (i + 1) = 4
  else if k = 28 then Sa (dd + 1) 2 ∧ Sb (dd + 1) 2
  else False
def SG (X : Lx) : Tr → Nat → Nat → Prop
  | .add (.add (.var k) (.add (.var i) (.var _))) (.add a b), dd, mo => sgN X (fun dd => XG X a (19 - dd) 1 ∧ dd ≤ 19) (fun dd => XG X b (19 - dd) 1 ∧ dd ≤ 19) (SG X a) (SG X b) (isZ a) (isZ b) k i dd mo
  | .num _, _, mo => mo = 1
  | _, _, _ => False
section SGM
variable {X : Lx} {k i e dd mo : Nat} {ta tb : Tr}
theorem SG_n : SG X (tD k i e ta tb) dd mo = sgN X (fun dd => XG X ta (19 - dd) 1 ∧ dd ≤ 19) (fun dd => XG X tb (19 - dd) 1 ∧ dd ≤ 19) (SG X ta) (SG X tb) (isZ ta) (isZ tb) k i dd mo := rfl
theorem sg_step {E : Nat → ER} {B : Nat → Nat → Nat → SR} (hE : ∀ i tr j, E i = .ok (tr, j) → XG X tr (19 - dd) 1 ∧ dd ≤ 19) (hB : ∀ i v g tr j v' g', B i v g = .ok (tr, j, v', g') → SG X tr (dd + 1) 2) (i v g : Nat) (tr : Tr) (j v' g' : Nat) (h : pStep (xK X) E B i v g = .ok (tr, j, v', g')) : SG X tr dd 0 := by
  unfold pStep at h
  by_cases c1 : xK X i = 15
  · rw [if_pos c1] at h
    by_cases c2 : v = 20
    · rw [if_pos c2] at h; cases h
    rw [if_neg c2] at h
    obtain ⟨k1, h⟩ := sn_ok h
    obtain ⟨k2, h⟩ := sn_ok h
    obtain ⟨j1, e1, h⟩ := sy_ok h
    have tp := (pTy_p 6 false (i + 3) j1 e1 (fun w => by cases w.1)).1
    by_cases c3 : xK X j1 = 50
    · rw [if_pos c3] at h
      obtain ⟨a, j2, e2, h⟩ := se_ok h
      obtain ⟨k3, h⟩ := sn_ok h
      injection h with h
      injection h with h1 h
      injection h with h2 h
      injection h with h3 h4
      subst h1 h2 h3 h4
      exact ⟨k1, tp, Or.inr (hE _ _ _ e2)⟩
    · rw [if_neg c3] at h
      obtain ⟨k3, h⟩ := sn_ok h
      injection h with h
      injection h with h1 h
      injection h with h2 h
      injection h with h3 h4
      subst h1 h2 h3 h4
      exact ⟨k1, tp, Or.inl rfl⟩
  rw [if_neg c1] at h
  by_cases c2 : xK X i = 18
  · rw [if_pos c2] at h
    obtain ⟨a, j1, e1, h⟩ := se_ok h
    obtain ⟨b, j2, v2, g2, e2, h⟩ := sb_ok h
    injection h with h
    injection h with h1 h
    injection h with h2 h
    injection h with h3 h4
    subst h1 h2 h3 h4
    exact ⟨hE _ _ _ e1, hB _ _ _ _ _ _ _ e2⟩
  rw [if_neg c2] at h
  by_cases c3 : xK X i = 16
  · rw [if_pos c3] at h
    obtain ⟨a, j1, e1, h⟩ := se_ok h
    obtain ⟨b, j2, v2, g2, e2, h⟩ := sb_ok h
    by_cases c4 : xK X j2 = 17
    · rw [if_pos c4] at h
      obtain ⟨b2, j3, v3, g3, e3, h⟩ := sb_ok h
      injection h with h
      injection h with h1 h
      injection h with h2 h
      injection h with h3 h4
      subst h1 h2 h3 h4
      exact ⟨hE _ _ _ e1, (⟨rfl, hB _ _ _ _ _ _ _ e2, Or.inr (hB _ _ _ _ _ _ _ e3)⟩ : SG X (tD 12 0 0 b b2) (dd + 1) 3)⟩
    · rw [if_neg c4] at h
      injection h with h
      injection h with h1 h
      injection h with h2 h
      injection h with h3 h4
      subst h1 h2 h3 h4
      exact ⟨hE _ _ _ e1, (⟨rfl, hB _ _ _ _ _ _ _ e2, Or.inl rfl⟩ : SG X (tD 12 0 0 b tZ) (dd + 1) 3)⟩
  rw [if_neg c3] at h
  by_cases c4 : xK X i = 19
  · rw [if_pos c4] at h
    by_cases c5 : xK X (i + 1) = 46
    · rw [if_pos c5] at h
      injection h with h
      injection h with h1 h
      injection h with h2 h
      injection h with h3 h4
      subst h1 h2 h3 h4
      exact Or.inl rfl
    · rw [if_neg c5] at h
      obtain ⟨a, j1, e1, h⟩ := se_ok h
      obtain ⟨k1, h⟩ := sn_ok h
      injection h with h
      injection h with h1 h
      injection h with h2 h
      injection h with h3 h4
      subst h1 h2 h3 h4
      exact Or.inr (hE _ _ _ e1)
  rw [if_neg c4] at h
  by_cases c5 : xK X i = 21
  · rw [if_pos c5] at h
    by_cases c6 : g = 8
    · rw [if_pos c6] at h; cases h
    rw [if_neg c6] at h
    obtain ⟨k1, h⟩ := sn_ok h
    obtain ⟨b, j2, v2, g2, e2, h⟩ := sb_ok h
    injection h with h
    injection h with h1 h
    injection h with h2 h
    injection h with h3 h4
    subst h1 h2 h3 h4
    exact ⟨k1, hB _ _ _ _ _ _ _ e2⟩
  rw [if_neg c5] at h
  by_cases c6 : xK X i = 22
  · rw [if_pos c6] at h
    obtain ⟨k1, h⟩ := sn_ok h
    obtain ⟨k2, h⟩ := sn_ok h
    injection h with h
    injection h with h1 h
    injection h with h2 h
    injection h with h3 h4
    subst h1 h2 h3 h4
    exact k1
  rw [if_neg c6] at h
  by_cases c7 : xK X i = 23
  · rw [if_pos c7] at h
    obtain ⟨b, j2, v2, g2, e2, h⟩ := sb_ok h
    obtain ⟨k1, h⟩ := sn_ok h
    obtain ⟨b2, j3, v3, g3, e3, h⟩ := sb_ok h
    injection h with h
    injection h with h1 h
    injection h with h2 h
    injection h with h3 h4
    subst h1 h2 h3 h4
    exact ⟨hB _ _ _ _ _ _ _ e2, hB _ _ _ _ _ _ _ e3⟩
  rw [if_neg c7] at h
  by_cases c8 : xK X i = 20 ∨ xK X i = 25
  · rw [if_pos c8] at h
    obtain ⟨a, j1, e1, h⟩ := se_ok h
    obtain ⟨k1, h⟩ := sn_ok h
    injection h with h
    injection h with h1 h
    injection h with h2 h
    injection h with h3 h4
    subst h1 h2 h3 h4
    have := hE _ _ _ e1
    by_cases c9 : xK X i = 20
    · rw [if_pos c9]
      exact this
    · rw [if_neg c9]
      exact this
  rw [if_neg c8] at h
  obtain ⟨a, j1, e1, h⟩ := se_ok h
  by_cases c9 : xK X j1 = 50
  · rw [if_pos c9] at h
    obtain ⟨b, j2, e2, h⟩ := se_ok h
    obtain ⟨k1, h⟩ := sn_ok h
    injection h with h
    injection h with h1 h
    injection h with h2 h
    injection h with h3 h4
    subst h1 h2 h3 h4
    exact ⟨hE _ _ _ e1, hE _ _ _ e2⟩
  · rw [if_neg c9] at h
    obtain ⟨k1, h⟩ := sn_ok h
    injection h with h
    injection h with h1 h
    injection h with h2 h
    injection h with h3 h4
    subst h1 h2 h3 h4
    have := hE _ _ _ e1
    exact this
theorem sg_steps {S : Nat → Nat → Nat → SR} (hS : ∀ i v g tr j v' g', S i v g = .ok (tr, j, v', g') → SG X tr dd 0) : ∀ (f i v g : Nat) (tr : Tr) (j v' g' : Nat), pSteps (xK X) S f i v g = .ok (tr, j, v', g') → SG X tr dd 1 := by
  intro f
  induction f with
  | zero => intro i v g tr j v' g' h; cases h
  | succ f ih =>
    intro i v g tr j v' g' h
    rw [pSteps] at h
    by_cases c : xK X i = 41
    · rw [if_pos c] at h
      injection h with h
      injection h with h1 h
      injection h with h2 h
      injection h with h3 h4
      subst h1 h2 h3 h4
      rfl
    · rw [if_neg c] at h
      obtain ⟨s, j2, v2, g2, e2, h⟩ := sb_ok h
      obtain ⟨r, j3, v3, g3, e3, h⟩ := sb_ok h
      injection h with h
      injection h with h1 h
      injection h with h2 h
      injection h with h3 h4
      subst h1 h2 h3 h4
      exact ⟨rfl, hS _ _ _ _ _ _ _ e2, ih _ _ _ _ _ _ _ e3⟩
theorem pBl_sg : ∀ (m i v g : Nat) (tr : Tr) (j v' g' : Nat), m ≤ 20 → pBl (xK X) m i v g = .ok (tr, j, v', g') → SG X tr (21 - m) 2 := by
  intro m
  induction m with
  | zero => intro i v g tr j v' g' _ h; cases h
  | succ m ih =>
    intro i v g tr j v' g' hm h
    rw [pBl] at h
    obtain ⟨k1, h⟩ := sn_ok h
    obtain ⟨s, j2, v2, g2, e2, h⟩ := sb_ok h
    obtain ⟨k2, h⟩ := sn_ok h
    injection h with h
    injection h with h1 h
    injection h with h2 h
    injection h with h3 h4
    subst h1 h2 h3 h4
    have st := sg_steps (dd := 21 - (m + 1)) (fun i v g tr j v' g' h => sg_step (dd := 21 - (m + 1)) (fun i tr j h => ?_) (fun i v g tr j v' g' h => ?_) i v g tr j v' g' h) _ _ _ _ _ _ _ _ e2
    · exact ⟨rfl, st, by omega, by omega⟩
    · obtain ⟨m1, x1⟩ := pEx_xg (X := X) m 0 i tr j h
      rw [if_pos rfl] at x1
      rw [show 19 - (21 - (m + 1)) = m - 1 by omega]
      exact ⟨x1, by omega⟩
    · have m1 : 1 ≤ m := by
        cases m with
        | zero => cases h
        | succ m => omega
      have := ih i v g tr j v' g' (by omega) h
      rw [show 21 - (m + 1) + 1 = 21 - m by omega]
      exact this
end SGM
