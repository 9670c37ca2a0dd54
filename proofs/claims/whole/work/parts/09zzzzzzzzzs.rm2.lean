/-! the room of the class: STEPS -/
section RMD
variable {X : Lx} {i j k m e c dd : Nat} {ta tb tr a b : Tr} {G : Nat → Nat → ER}
theorem isZ_num (h : isZ a = true) : ∃ n, a = .num n := by
  unfold isZ at h
  split at h
  · exact ⟨_, rfl⟩
  · cases h
theorem bX.nz (h : bX X a) : isZ a = false := by
  cases z : isZ a
  · rfl
  · obtain ⟨n, rfl⟩ := isZ_num z
    have e3 : cw X (.num n) = 0 := rfl
    have := h.2
    omega
theorem bB.nz (h : bB X a) : isZ a = false := by
  cases z : isZ a
  · rfl
  · obtain ⟨n, rfl⟩ := isZ_num z
    have e3 : cws X (.num n) = 0 := rfl
    have := h.2
    omega
theorem bs_step {E : Nat → ER} {B : Nat → Nat → Nat → SR} (hE : ∀ i tr j, E i = .ok (tr, j) → bX X tr) (hB : ∀ i v g tr j v' g', B i v g = .ok (tr, j, v', g') → bB X tr) (i v g : Nat) (tr : Tr) (j v' g' : Nat) (h : pStep (xK X) E B i v g = .ok (tr, j, v', g')) : bS X tr := by
  unfold pStep at h
  by_cases c1 : xK X i = 15
  · rw [if_pos c1] at h
    by_cases c2 : v = 20
    · rw [if_pos c2] at h; cases h
    rw [if_neg c2] at h
    obtain ⟨k1, h⟩ := sn_ok h
    obtain ⟨k2, h⟩ := sn_ok h
    obtain ⟨j1, e1, h⟩ := sy_ok h
    by_cases c3 : xK X j1 = 50
    · rw [if_pos c3] at h
      obtain ⟨a, j2, e2, h⟩ := se_ok h
      obtain ⟨k3, h⟩ := sn_ok h
      injection h with h
      injection h with h1 h
      injection h with h2 h
      injection h with h3 h4
      subst h1 h2 h3 h4
      have A := hE _ _ _ e2
      have q1 : kwS2 (tD 20 i v a tZ) = kwT a + 2 := rfl
      have q2 : lvS2 X (tD 20 i v a tZ) = lvT X a + 6 := rfl
      have q3 : cws X (tD 20 i v a tZ) = (tyE X 6 (i + 3) - (i + 3)) + (if isZ a = true then 4 else cw X a + 5) := rfl
      rw [A.nz, if_neg (by decide)] at q3
      unfold bX at A
      unfold bS
      omega
    · rw [if_neg c3] at h
      obtain ⟨k3, h⟩ := sn_ok h
      injection h with h
      injection h with h1 h
      injection h with h2 h
      injection h with h3 h4
      subst h1 h2 h3 h4
      have z1 : kwT tZ = 0 := rfl
      have z2 : lvT X tZ = 0 := rfl
      have z3 : cw X tZ = 0 := rfl
      have q1 : kwS2 (tD 20 i v tZ tZ) = kwT tZ + 2 := rfl
      have q2 : lvS2 X (tD 20 i v tZ tZ) = lvT X tZ + 6 := rfl
      have q3 : cws X (tD 20 i v tZ tZ) = (tyE X 6 (i + 3) - (i + 3)) + 4 := rfl
      unfold bS
      omega
  rw [if_neg c1] at h
  by_cases c2 : xK X i = 18
  · rw [if_pos c2] at h
    obtain ⟨a, j1, e1, h⟩ := se_ok h
    obtain ⟨b, j2, v2, g2, e2, h⟩ := sb_ok h
    injection h with h
    injection h with h1 h
    injection h with h2 h
    injection h with h3 h4
    subst h1 h2 h3 h4
    have A := hE _ _ _ e1
    have B := hB _ _ _ _ _ _ _ e2
    unfold bX at A
    unfold bB at B
    have q1 : kwS2 (tD 22 i 0 a b) = kwT a + kwS2 b + 3 := rfl
    have q2 : lvS2 X (tD 22 i 0 a b) = lvT X a + lvS2 X b := rfl
    have q3 : cws X (tD 22 i 0 a b) = cw X a + cws X b + 1 := rfl
    unfold bS
    omega
  rw [if_neg c2] at h
  by_cases c3 : xK X i = 16
  · rw [if_pos c3] at h
    obtain ⟨a, j1, e1, h⟩ := se_ok h
    obtain ⟨b, j2, v2, g2, e2, h⟩ := sb_ok h
    by_cases c4 : xK X j2 = 17
    · rw [if_pos c4] at h
      obtain ⟨b2, j3, v3, g3, e3, h⟩ := sb_ok h
      injection h with h
      injection h with h1 h
      injection h with h2 h
      injection h with h3 h4
      subst h1 h2 h3 h4
      have A := hE _ _ _ e1
      have B := hB _ _ _ _ _ _ _ e2
      have C := hB _ _ _ _ _ _ _ e3
      have q1 : kwS2 (tD 21 i 0 a (tD 12 0 0 b b2)) = kwT a + (kwS2 b + kwS2 b2 + 1) + 2 := rfl
      have q2 : lvS2 X (tD 21 i 0 a (tD 12 0 0 b b2)) = lvT X a + (lvS2 X b + lvS2 X b2) := rfl
      have q3 : cws X (tD 21 i 0 a (tD 12 0 0 b b2)) = cw X a + (if isZ b2 = true then cws X b else cws X b + cws X b2 + 1) + 1 := rfl
      rw [C.nz, if_neg (by decide)] at q3
      unfold bX at A
      unfold bB at B C
      unfold bS
      omega
    · rw [if_neg c4] at h
      injection h with h
      injection h with h1 h
      injection h with h2 h
      injection h with h3 h4
      subst h1 h2 h3 h4
      have A := hE _ _ _ e1
      have B := hB _ _ _ _ _ _ _ e2
      have q1 : kwS2 (tD 21 i 0 a (tD 12 0 0 b tZ)) = kwT a + (kwS2 b + kwS2 tZ + 1) + 2 := rfl
      have q2 : lvS2 X (tD 21 i 0 a (tD 12 0 0 b tZ)) = lvT X a + (lvS2 X b + lvS2 X tZ) := rfl
      have q3 : cws X (tD 21 i 0 a (tD 12 0 0 b tZ)) = cw X a + cws X b + 1 := rfl
      have z1 : kwS2 tZ = 0 := rfl
      have z2 : lvS2 X tZ = 0 := rfl
      unfold bX at A
      unfold bB at B
      unfold bS
      omega
  rw [if_neg c3] at h
  by_cases c4 : xK X i = 19
  · rw [if_pos c4] at h
    by_cases c5 : xK X (i + 1) = 46
    · rw [if_pos c5] at h
      injection h with h
      injection h with h1 h
      injection h with h2 h
      injection h with h3 h4
      subst h1 h2 h3 h4
      have z1 : kwT tZ = 0 := rfl
      have z2 : lvT X tZ = 0 := rfl
      have z3 : cw X tZ = 0 := rfl
      have q1 : kwS2 (tD 23 i 0 tZ tZ) = kwT tZ + 2 := rfl
      have q2 : lvS2 X (tD 23 i 0 tZ tZ) = lvT X tZ := rfl
      have q3 : cws X (tD 23 i 0 tZ tZ) = 2 := rfl
      unfold bS
      omega
    · rw [if_neg c5] at h
      obtain ⟨a, j1, e1, h⟩ := se_ok h
      obtain ⟨k1, h⟩ := sn_ok h
      injection h with h
      injection h with h1 h
      injection h with h2 h
      injection h with h3 h4
      subst h1 h2 h3 h4
      have A := hE _ _ _ e1
      have q1 : kwS2 (tD 23 i 0 a tZ) = kwT a + 2 := rfl
      have q2 : lvS2 X (tD 23 i 0 a tZ) = lvT X a := rfl
      have q3 : cws X (tD 23 i 0 a tZ) = if isZ a = true then 2 else cw X a + 2 := rfl
      rw [A.nz, if_neg (by decide)] at q3
      unfold bX at A
      unfold bS
      omega
  rw [if_neg c4] at h
  by_cases c5 : xK X i = 21
  · rw [if_pos c5] at h
    by_cases c6 : g = 8
    · rw [if_pos c6] at h; cases h
    rw [if_neg c6] at h
    obtain ⟨k1, h⟩ := sn_ok h
    obtain ⟨b, j2, v2, g2, e2, h⟩ := sb_ok h
    injection h with h
    injection h with h1 h
    injection h with h2 h
    injection h with h3 h4
    subst h1 h2 h3 h4
    have B := hB _ _ _ _ _ _ _ e2
    unfold bB at B
    have q1 : kwS2 (tD 26 i 0 b tZ) = kwS2 b + 3 := rfl
    have q2 : lvS2 X (tD 26 i 0 b tZ) = lvS2 X b := rfl
    have q3 : cws X (tD 26 i 0 b tZ) = cws X b + 2 := rfl
    unfold bS
    omega
  rw [if_neg c5] at h
  by_cases c6 : xK X i = 22
  · rw [if_pos c6] at h
    obtain ⟨k1, h⟩ := sn_ok h
    obtain ⟨k2, h⟩ := sn_ok h
    injection h with h
    injection h with h1 h
    injection h with h2 h
    injection h with h3 h4
    subst h1 h2 h3 h4
    have z1 : kwT tZ = 0 := rfl
    have z2 : lvT X tZ = 0 := rfl
    have z3 : cw X tZ = 0 := rfl
    have q1 : kwS2 (tD 27 i 0 tZ tZ) = 2 := rfl
    have q2 : lvS2 X (tD 27 i 0 tZ tZ) = lvT X tZ := rfl
    have q3 : cws X (tD 27 i 0 tZ tZ) = 3 := rfl
    unfold bS
    omega
  rw [if_neg c6] at h
  by_cases c7 : xK X i = 23
  · rw [if_pos c7] at h
    obtain ⟨b, j2, v2, g2, e2, h⟩ := sb_ok h
    obtain ⟨k1, h⟩ := sn_ok h
    obtain ⟨b2, j3, v3, g3, e3, h⟩ := sb_ok h
    injection h with h
    injection h with h1 h
    injection h with h2 h
    injection h with h3 h4
    subst h1 h2 h3 h4
    have B := hB _ _ _ _ _ _ _ e2
    have C := hB _ _ _ _ _ _ _ e3
    unfold bB at B C
    have q1 : kwS2 (tD 28 i 0 b b2) = kwS2 b + kwS2 b2 + 5 := rfl
    have q2 : lvS2 X (tD 28 i 0 b b2) = lvS2 X b + lvS2 X b2 := rfl
    have q3 : cws X (tD 28 i 0 b b2) = cws X b + cws X b2 + 2 := rfl
    unfold bS
    omega
  rw [if_neg c7] at h
  by_cases c8 : xK X i = 20 ∨ xK X i = 25
  · rw [if_pos c8] at h
    obtain ⟨a, j1, e1, h⟩ := se_ok h
    obtain ⟨k1, h⟩ := sn_ok h
    injection h with h
    injection h with h1 h
    injection h with h2 h
    injection h with h3 h4
    subst h1 h2 h3 h4
    have A := hE _ _ _ e1
    unfold bX at A
    by_cases c9 : xK X i = 20
    · rw [if_pos c9]
      have q1 : kwS2 (tD 24 i 0 a tZ) = kwT a + 2 := rfl
      have q2 : lvS2 X (tD 24 i 0 a tZ) = lvT X a := rfl
      have q3 : cws X (tD 24 i 0 a tZ) = cw X a + 2 := rfl
      unfold bS
      omega
    · rw [if_neg c9]
      have q1 : kwS2 (tD 25 i 0 a tZ) = kwT a + 2 := rfl
      have q2 : lvS2 X (tD 25 i 0 a tZ) = lvT X a := rfl
      have q3 : cws X (tD 25 i 0 a tZ) = cw X a + 2 := rfl
      unfold bS
      omega
  rw [if_neg c8] at h
  obtain ⟨a, j1, e1, h⟩ := se_ok h
  by_cases c9 : xK X j1 = 50
  · rw [if_pos c9] at h
    obtain ⟨b, j2, e2, h⟩ := se_ok h
    obtain ⟨k1, h⟩ := sn_ok h
    injection h with h
    injection h with h1 h
    injection h with h2 h
    injection h with h3 h4
    subst h1 h2 h3 h4
    have A := hE _ _ _ e1
    have B := hE _ _ _ e2
    unfold bX at A B
    have q1 : kwS2 (tD 29 i 0 a b) = kwT a + kwT b + 1 := rfl
    have q2 : lvS2 X (tD 29 i 0 a b) = lvT X a + lvT X b := rfl
    have q3 : cws X (tD 29 i 0 a b) = cw X a + cw X b + 2 := rfl
    unfold bS
    omega
  · rw [if_neg c9] at h
    obtain ⟨k1, h⟩ := sn_ok h
    injection h with h
    injection h with h1 h
    injection h with h2 h
    injection h with h3 h4
    subst h1 h2 h3 h4
    have A := hE _ _ _ e1
    unfold bX at A
    have q1 : kwS2 (tD 30 i 0 a tZ) = kwT a + 2 := rfl
    have q2 : lvS2 X (tD 30 i 0 a tZ) = lvT X a := rfl
    have q3 : cws X (tD 30 i 0 a tZ) = cw X a + 1 := rfl
    unfold bS
    omega
theorem bs_steps {S : Nat → Nat → Nat → SR} (hS : ∀ i v g tr j v' g', S i v g = .ok (tr, j, v', g') → bS X tr) : ∀ (f i v g : Nat) (tr : Tr) (j v' g' : Nat), pSteps (xK X) S f i v g = .ok (tr, j, v', g') → bS X tr := by
  intro f
  induction f with
  | zero => intro i v g tr j v' g' h; cases h
  | succ f ih =>
    intro i v g tr j v' g' h
    rw [pSteps] at h
    by_cases c : xK X i = 41
    · rw [if_pos c] at h
      injection h with h
      injection h with h1 h
      injection h with h2 h
      injection h with h3 h4
      subst h1 h2 h3 h4
      exact ⟨Nat.zero_le _, Nat.zero_le _⟩
    · rw [if_neg c] at h
      obtain ⟨s, j2, v2, g2, e2, h⟩ := sb_ok h
      obtain ⟨r, j3, v3, g3, e3, h⟩ := sb_ok h
      injection h with h
      injection h with h1 h
      injection h with h2 h
      injection h with h3 h4
      subst h1 h2 h3 h4
      have A := hS _ _ _ _ _ _ _ e2
      have B := ih _ _ _ _ _ _ _ e3
      unfold bS at A B
      have q1 : kwS2 (tD 11 0 0 s r) = kwS2 s + kwS2 r := rfl
      have q2 : lvS2 X (tD 11 0 0 s r) = lvS2 X s + lvS2 X r := rfl
      have q3 : cws X (tD 11 0 0 s r) = cws X s + cws X r := rfl
      unfold bS
      omega
theorem pBl_bb : ∀ (m i v g : Nat) (tr : Tr) (j v' g' : Nat), pBl (xK X) m i v g = .ok (tr, j, v', g') → bB X tr := by
  intro m
  induction m with
  | zero => intro i v g tr j v' g' h; cases h
  | succ m ih =>
    intro i v g tr j v' g' h
    rw [pBl] at h
    obtain ⟨k1, h⟩ := sn_ok h
    obtain ⟨s, j2, v2, g2, e2, h⟩ := sb_ok h
    obtain ⟨k2, h⟩ := sn_ok h
    injection h with h
    injection h with h1 h
    injection h with h2 h
    injection h with h3 h4
    subst h1 h2 h3 h4
    have st := bs_steps (X := X) (fun i v g tr j v' g' h => bs_step (fun i tr j h => pEx_bx m 0 i tr j h) (fun i v g tr j v' g' h => ih i v g tr j v' g' h) i v g tr j v' g' h) _ _ _ _ _ _ _ _ e2
    unfold bS at st
    unfold bB
    have q1 : ∀ k, kwS2 (tD 31 k 0 s tZ) = kwS2 s := fun _ => rfl
    have q2 : ∀ k, lvS2 X (tD 31 k 0 s tZ) = lvS2 X s := fun _ => rfl
    have q3 : ∀ k, cws X (tD 31 k 0 s tZ) = cws X s + 2 := fun _ => rfl
    rw [q1, q2, q3]
    omega
end RMD
