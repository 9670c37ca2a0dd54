/-! room for types: how many characters STEPS take at least; tokens of a text -/
section WD
variable {X : Lx} {f : Nat → Int32} {z q : Nat}
theorem step_cw (h : SPc X) {E : Nat → ER} {B : Nat → Nat → Nat → SR} (hE : ∀ i tr j, E i = .ok (tr, j) → xP X i + cw X tr ≤ xP X j) (hB : Bcw X B) (i v g : Nat) (tr : Tr) (j v' g' : Nat) (hh : pStep (xK X) E B i v g = .ok (tr, j, v', g')) : xP X i + cws X tr ≤ xP X j := by
  unfold pStep at hh
  by_cases c1 : xK X i = 15
  · rw [if_pos c1] at hh
    by_cases c2 : v = 20
    · rw [if_pos c2] at hh; cases hh
    rw [if_neg c2] at hh
    obtain ⟨k1, hh⟩ := sn_ok hh
    obtain ⟨k2, hh⟩ := sn_ok hh
    obtain ⟨j1, e1, hh⟩ := sy_ok hh
    obtain ⟨t1, t2⟩ := ty_ok _ _ _ e1
    have t3 := ty_sp h _ _ _ _ e1
    have s0 := h.k c1 (by omega)
    have s1 := h.k2 (i + 2) k1 (by omega) rfl
    have s2 := h.k2 (i + 3) k2 (by omega) rfl
    by_cases c3 : xK X j1 = 50
    · rw [if_pos c3] at hh
      obtain ⟨a, j2, e2, hh⟩ := se_ok hh
      obtain ⟨k3, hh⟩ := sn_ok hh
      injection hh with hh
      injection hh with h1 hh
      injection hh with h2 hh
      subst h1 h2
      have g1 := hE _ _ _ e2
      have s3 := h.k c3 (by omega)
      have s4 := h.k k3 (by omega)
      show xP X i + ((tyE X 6 (i + 3) - (i + 3)) + (if isZ a = true then 4 else cw X a + 5)) ≤ _
      rw [← t2]
      split <;> omega
    · rw [if_neg c3] at hh
      obtain ⟨k3, hh⟩ := sn_ok hh
      injection hh with hh
      injection hh with h1 hh
      injection hh with h2 hh
      subst h1 h2
      have s4 := h.k k3 (by omega)
      show xP X i + ((tyE X 6 (i + 3) - (i + 3)) + (if isZ tZ = true then 4 else _)) ≤ _
      rw [← t2, show isZ tZ = true from rfl, if_pos rfl]
      omega
  rw [if_neg c1] at hh
  by_cases c2 : xK X i = 18
  · rw [if_pos c2] at hh
    obtain ⟨a, j1, e1, hh⟩ := se_ok hh
    obtain ⟨b, j2, v2, g2, e2, hh⟩ := sb_ok hh
    injection hh with hh
    injection hh with h1 hh
    injection hh with h2 hh
    subst h1 h2
    have q1 := hE _ _ _ e1
    have q2 := hB _ _ _ _ _ _ _ e2
    have s0 := h.k c2 (by omega)
    show xP X i + (cw X a + cws X b + 1) ≤ _
    omega
  rw [if_neg c2] at hh
  by_cases c3 : xK X i = 16
  · rw [if_pos c3] at hh
    obtain ⟨a, j1, e1, hh⟩ := se_ok hh
    obtain ⟨b, j2, v2, g2, e2, hh⟩ := sb_ok hh
    have q1 := hE _ _ _ e1
    have q2 := hB _ _ _ _ _ _ _ e2
    have s0 := h.k c3 (by omega)
    by_cases c4 : xK X j2 = 17
    · rw [if_pos c4] at hh
      obtain ⟨b2, j3, v3, g3, e3, hh⟩ := sb_ok hh
      injection hh with hh
      injection hh with h1 hh
      injection hh with h2 hh
      subst h1 h2
      have q3 := hB _ _ _ _ _ _ _ e3
      have s1 := h.k c4 (by omega)
      show xP X i + (cw X a + (if isZ b2 = true then cws X b else cws X b + cws X b2 + 1) + 1) ≤ _
      split <;> omega
    · rw [if_neg c4] at hh
      injection hh with hh
      injection hh with h1 hh
      injection hh with h2 hh
      subst h1 h2
      show xP X i + (cw X a + (if isZ tZ = true then cws X b else cws X b + cws X tZ + 1) + 1) ≤ _
      rw [show isZ tZ = true from rfl, if_pos rfl]
      omega
  rw [if_neg c3] at hh
  by_cases c4 : xK X i = 19
  · rw [if_pos c4] at hh
    have s0 := h.k c4 (by omega)
    by_cases c5 : xK X (i + 1) = 46
    · rw [if_pos c5] at hh
      injection hh with hh
      injection hh with h1 hh
      injection hh with h2 hh
      subst h1 h2
      have s1 := h.k2 (i + 2) c5 (by omega) rfl
      show xP X i + (if isZ tZ = true then 2 else cw X tZ + 2) ≤ _
      rw [show isZ tZ = true from rfl, if_pos rfl]
      omega
    · rw [if_neg c5] at hh
      obtain ⟨a, j1, e1, hh⟩ := se_ok hh
      obtain ⟨k1, hh⟩ := sn_ok hh
      injection hh with hh
      injection hh with h1 hh
      injection hh with h2 hh
      subst h1 h2
      have q1 := hE _ _ _ e1
      have s1 := h.k k1 (by omega)
      show xP X i + (if isZ a = true then 2 else cw X a + 2) ≤ _
      split <;> omega
  rw [if_neg c4] at hh
  by_cases c5 : xK X i = 21
  · rw [if_pos c5] at hh
    by_cases c6 : g = 8
    · rw [if_pos c6] at hh; cases hh
    rw [if_neg c6] at hh
    obtain ⟨k1, hh⟩ := sn_ok hh
    obtain ⟨b, j1, v2, g2, e1, hh⟩ := sb_ok hh
    injection hh with hh
    injection hh with h1 hh
    injection hh with h2 hh
    subst h1 h2
    have q1 := hB _ _ _ _ _ _ _ e1
    have s0 := h.k c5 (by omega)
    have s1 := h.k2 (i + 2) k1 (by omega) rfl
    show xP X i + (cws X b + 2) ≤ _
    omega
  rw [if_neg c5] at hh
  by_cases c6 : xK X i = 22
  · rw [if_pos c6] at hh
    obtain ⟨k1, hh⟩ := sn_ok hh
    obtain ⟨k2, hh⟩ := sn_ok hh
    injection hh with hh
    injection hh with h1 hh
    injection hh with h2 hh
    subst h1 h2
    have s0 := h.k c6 (by omega)
    have s1 := h.k2 (i + 2) k1 (by omega) rfl
    have s2 := h.k2 (i + 3) k2 (by omega) rfl
    show xP X i + 3 ≤ _
    omega
  rw [if_neg c6] at hh
  by_cases c7 : xK X i = 23
  · rw [if_pos c7] at hh
    obtain ⟨b, j1, v2, g2, e1, hh⟩ := sb_ok hh
    obtain ⟨k1, hh⟩ := sn_ok hh
    obtain ⟨b2, j3, v3, g3, e3, hh⟩ := sb_ok hh
    injection hh with hh
    injection hh with h1 hh
    injection hh with h2 hh
    subst h1 h2
    have q1 := hB _ _ _ _ _ _ _ e1
    have q2 := hB _ _ _ _ _ _ _ e3
    have s0 := h.k c7 (by omega)
    have s1 := h.k k1 (by omega)
    show xP X i + (cws X b + cws X b2 + 2) ≤ _
    omega
  rw [if_neg c7] at hh
  by_cases c8 : xK X i = 20 ∨ xK X i = 25
  · rw [if_pos c8] at hh
    obtain ⟨a, j1, e1, hh⟩ := se_ok hh
    obtain ⟨k1, hh⟩ := sn_ok hh
    injection hh with hh
    injection hh with h1 hh
    injection hh with h2 hh
    subst h1 h2
    have q1 := hE _ _ _ e1
    have s0 := (h i (by omega)).1
    have s1 := h.k k1 (by omega)
    have e0 : cws X (tD (if xK X i = 20 then 24 else 25) i 0 a tZ) = cw X a + 2 := by
      split <;> rfl
    rw [e0]
    omega
  rw [if_neg c8] at hh
  obtain ⟨a, j1, e1, hh⟩ := se_ok hh
  have q1 := hE _ _ _ e1
  by_cases c9 : xK X j1 = 50
  · rw [if_pos c9] at hh
    obtain ⟨b, j2, e2, hh⟩ := se_ok hh
    obtain ⟨k1, hh⟩ := sn_ok hh
    injection hh with hh
    injection hh with h1 hh
    injection hh with h2 hh
    subst h1 h2
    have q2 := hE _ _ _ e2
    have s0 := h.k c9 (by omega)
    have s1 := h.k k1 (by omega)
    show xP X i + (cw X a + cw X b + 2) ≤ _
    omega
  · rw [if_neg c9] at hh
    obtain ⟨k1, hh⟩ := sn_ok hh
    injection hh with hh
    injection hh with h1 hh
    injection hh with h2 hh
    subst h1 h2
    have s1 := h.k k1 (by omega)
    show xP X i + (cw X a + 1) ≤ _
    omega
theorem steps_cw {S : Nat → Nat → Nat → SR} (hS : Bcw X S) : ∀ (fl i v g : Nat) (tr : Tr) (j v' g' : Nat), pSteps (xK X) S fl i v g = .ok (tr, j, v', g') → xP X i + cws X tr ≤ xP X j := by
  intro fl
  induction fl with
  | zero => intro i v g tr j v' g' hh; cases hh
  | succ fl ih =>
    intro i v g tr j v' g' hh
    rw [pSteps] at hh
    by_cases c : xK X i = 41
    · rw [if_pos c] at hh
      injection hh with hh
      injection hh with h1 hh
      injection hh with h2 hh
      subst h1 h2
      exact Nat.le_refl _
    · rw [if_neg c] at hh
      obtain ⟨s, j1, v2, g2, e1, hh⟩ := sb_ok hh
      obtain ⟨r, j2, v3, g3, e2, hh⟩ := sb_ok hh
      injection hh with hh
      injection hh with h1 hh
      injection hh with h2 hh
      subst h1 h2
      have q1 := hS _ _ _ _ _ _ _ e1
      have q2 := ih _ _ _ _ _ _ _ e2
      show xP X i + (cws X s + cws X r) ≤ _
      omega
theorem pBl_cw (h : SPc X) : ∀ m, Bcw X (pBl (xK X) m) := by
  intro m
  induction m with
  | zero => intro i v g tr j v' g' hh; cases hh
  | succ m ih =>
    intro i v g tr j v' g' hh
    rw [pBl] at hh
    obtain ⟨k1, hh⟩ := sn_ok hh
    obtain ⟨s, j1, v2, g2, e1, hh⟩ := sb_ok hh
    obtain ⟨k2, hh⟩ := sn_ok hh
    injection hh with hh
    injection hh with h1 hh
    injection hh with h2 hh
    subst h1 h2
    have q1 := steps_cw (fun i v g tr j v' g' e => step_cw h (fun i tr j e => pEx_cw h m 0 i tr j e) ih i v g tr j v' g' e) _ _ _ _ _ _ _ _ e1
    have s0 := h.k k1 (by omega)
    have s1 := h.k k2 (by omega)
    show xP X i + (cws X s + 2) ≤ _
    omega
/-- null has four characters -/
theorem nul_w (hz : z ≤ 4000) (hq : q < z) (h : kT f z q = 27) : q + 4 ≤ tAft f z q := by
  unfold kT at h
  rw [if_neg (by omega)] at h
  have h27 : tokK f (wt 133) z q = 27 := by
    have b := Int32.toNatClampNeg_lt (tokK f (wt 133) z q)
    have e : nI (tokK f (wt 133) z q).toNatClampNeg = tokK f (wt 133) z q := by
      rcases Int32.le_total 0 (tokK f (wt 133) z q) with c | c
      · obtain ⟨j, hj, ej⟩ := nI_of (Int32.not_lt.mpr c)
        rw [ej, nI_clamp hj]
      · exfalso
        have : (tokK f (wt 133) z q).toNatClampNeg = 0 := by
          have := Int32.le_iff_toInt_le.mp c
          unfold Int32.toNatClampNeg
          have e0 : (0 : Int32).toInt = 0 := rfl
          omega
        omega
    rw [h] at e
    exact e.symm
  unfold tokK at h27
  by_cases c : f q = 39 ∨ cL (f q)
  · rw [if_pos c] at h27
    unfold sK at h27
    by_cases c39 : f q = 39
    · rw [if_pos c39] at h27
      unfold kReg at h27
      split at h27
      · exact absurd h27 (by decide)
      · split at h27 <;> exact absurd h27 (by decide)
    rw [if_neg c39] at h27
    by_cases cd : cD (f q)
    · rw [if_pos cd] at h27
      split at h27 <;> exact absurd h27 (by decide)
    rw [if_neg cd] at h27
    have hc : cL (f q) := c.resolve_left c39
    unfold kName at h27
    by_cases c8 : 8 < sN f z q + 1
    · rw [if_pos c8] at h27; exact absurd h27 (by decide)
    rw [if_neg c8] at h27
    by_cases cs : ¬ cS (f q)
    · rw [if_pos cs] at h27; exact absurd h27 (by decide)
    rw [if_neg cs] at h27
    by_cases cf : ff (isW (wt 133) (pkd f q (sN f z q + 1))) 0 26 = -1
    · rw [if_pos cf] at h27
      split at h27 <;> exact absurd h27 (by decide)
    rw [if_neg cf] at h27
    rcases ff_val (p := isW (wt 133) (pkd f q (sN f z q + 1))) (k := 26) (i := 0) with hv | ⟨j, b1, b2, b3, b4⟩
    · exact absurd hv cf
    rw [b4] at h27
    have j17 : j = 17 := by
      have : ∀ j : Fin 26, 10 + nI j.1 = 27 → j.1 = 17 := by decide
      exact this ⟨j, by omega⟩ h27
    subst j17
    have e := of_decide_eq_true b3
    rw [wt_val (by omega)] at e
    have hN : tN f z q = sN f z q + 1 := by
      unfold tN sN
      rw [show tFR f q = q from if_neg c39, rl_y hc (by omega), show z - q - 1 = z - (q + 1) by omega]
    have hbyte : ∀ j, j < sN f z q + 1 → (f (q + j)).toBitVec.toNat < 256 := by
      intro j hj
      have hcl : cL (f (q + j)) := by
        have : j < rl f q (z - q) := by
          have e1 : tFR f q = q := if_neg c39
          unfold tN at hN
          rw [e1] at hN
          omega
        exact rl_all this
      obtain ⟨m, h1, h2⟩ := cL_byte hcl
      rw [h2, byt_nI h1]
      exact h1
    have pn1 := pkd_pn (by omega) hbyte
    have pn2 := pn_lt hbyte
    rw [← pn1, ← e] at pn2
    have big : 256 ^ 3 ≤ (WL.getD 17 0).toBitVec.toNat := by decide +kernel
    have h4 : 3 < sN f z q + 1 := by
      refine Decidable.byContradiction fun w => ?_
      have : 256 ^ (sN f z q + 1) ≤ 256 ^ 3 := Nat.pow_le_pow_right (by omega) (by omega)
      omega
    unfold tAft
    rw [if_neg (by omega), if_pos (Or.inl hc), hN, show tFR f q = q from if_neg c39]
    omega
  · rw [if_neg c] at h27
    split at h27
    · exact absurd h27 (by decide)
    · split at h27
      · rename_i c2
        rcases ff_val (p := isC 3 (f q)) (k := 22) (i := 0) with hv | ⟨j, b1, b2, b3, b4⟩
        · rw [hv] at c2; exact absurd c2 (by decide)
        · rw [b4] at h27
          have : ∀ j : Fin 22, ¬ 40 + nI j.1 = 27 := by decide
          exact absurd h27 (this ⟨j, by omega⟩)
      · exact absurd h27 (by decide)
theorem SPc_mk (hz : z ≤ 4000) : SPc (mkX f z) ∧ xP (mkX f z) (xn (mkX f z)) = z := by
  have tf' := tk_facts (f := f) hz
  refine ⟨fun i hi => ?_, tf'.2⟩
  have hlt : tkAt f z (sk f z 0) i < z := by
    refine Decidable.byContradiction fun w => hi ?_
    show kT f z (tkAt f z (sk f z 0) i) = 0
    unfold kT
    rw [if_pos (by omega)]
  have a := aft_in (f := f) hz hlt
  have e : xP (mkX f z) (i + 1) = nq f z (tkAt f z (sk f z 0) i) := tkAt_s _ _
  rw [e]
  show tkAt f z (sk f z 0) i + 1 ≤ _ ∧ (kT f z (tkAt f z (sk f z 0) i) = 27 → tkAt f z (sk f z 0) i + 4 ≤ _)
  unfold nq
  exact ⟨by omega, fun k => by have := nul_w hz hlt k; omega⟩
end WD
