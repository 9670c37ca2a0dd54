/-! the params of a fun, both sides -/
section FPA
variable {X : Lx} {it e n m c t g : Nat}
theorem sr_pa (hm : m ≤ 8) : ∀ (k j : Nat) (S T : gSt), SrR X it e j g n S T → vn S = j → j + k = m → (∀ a, a < j → S.2 78 a = S.2 21 (c + a)) → (∀ a b, a < m → b < m → S.2 21 (c + a) = S.2 21 (c + b) → a = b) → (∀ q, q < m → ∃ y, T.1 44 (8 * t + q) = nI y ∧ y < 16387 ∧ tyY T y ∧ TyR (RgE e S) S T 5 (S.1 24 (c + q)) y ∧ tV S (S.1 24 (c + q)) ∧ S.2 21 (c + q) = xN X (T.1 43 (8 * t + q)).toNatClampNeg) → cn S < 6000 → S.1 82 0 = 0 → ¬ S.1 83 0 = 0 → SrR X it e m g n (paL c k j S) (epT X t k j T) ∧ TyF S (paL c k j S) T (epT X t k j T) ∧ lvC (epT X t k j T) 16384 = lvC T 16384 := by
  intro k
  induction k with
  | zero =>
    intro j S T h hv hj _ _ _ _ _ _
    have : j = m := by omega
    subst this
    exact ⟨h, TyF.rf, rfl⟩
  | succ k ih =>
    intro j S T h hv hj hnm hu hq hc h82 h83
    obtain ⟨y, y1, y2, y3, y4, y5, y6⟩ := hq j (by omega)
    obtain ⟨s1, s2, s3⟩ := h.par (c := c) (y := y) (by omega) hv (fun a ha w => by
      rw [hnm a (by omega)] at w
      have := hu a j (by omega) (by omega) w
      omega) y4 y3 y5 hc h82 h83
    have eE : sJ (adV T j y (S.2 21 (c + j))) 77 0 (gvW (flw (adV T j y (S.2 21 (c + j)))) j false) = epS X t j T := by
      unfold epS
      rw [y1, nc (by omega), y6]
    rw [eE] at s1 s2
    rw [paL, epT]
    have oP : ∀ k, k ≠ 77 → k ≠ 79 → k ≠ 80 → k ≠ 81 → (paS c j S).1 k = S.1 k := fun k a b d f => by
      unfold paS
      rw [sI_ne f]
      exact see_o a b d
    have oP2 : ∀ k, k ≠ 78 → (paS c j S).2 k = S.2 k := fun k a => by
      unfold paS
      show (seS S (S.2 21 (c + j)) (nI j) (S.1 24 (c + j))).2 k = _
      exact see_2 a
    have oE : ∀ k, ¬ (68 ≤ k ∧ k ≤ 71) → (epS X t j T).1 k = T.1 k := fun k hk => by
      unfold epS
      show (adV T j (T.1 44 (8 * t + j)).toNatClampNeg (xN X (T.1 43 (8 * t + j)).toNatClampNeg)).1 k = _
      exact adV_o hk
    have e77 : (paS c j S).1 77 0 = nI (vn S + 1) := by
      unfold paS
      rw [sI_ne (by omega)]
      exact see_77
    have ev : vn (paS c j S) = j + 1 := by
      have : vn (paS c j S) = (nI (vn S + 1)).toNatClampNeg := by rw [← e77]; rfl
      rw [this, hv]
      exact nc (by omega)
    have e78 : ∀ a, (paS c j S).2 78 a = if a = vn S then S.2 21 (c + j) else S.2 78 a := fun a => by
      unfold paS
      show (seS S (S.2 21 (c + j)) (nI j) (S.1 24 (c + j))).2 78 a = _
      exact see_78
    have fz : WT T → ∀ y, tyY T y → tyY (epS X t j T) y := fun hW y hy => by
      refine (hW.ag2 (T' := epS X t j T) ?_ ?_ (by rw [oE 27 (by omega)])).2 y hy
      · funext q
        unfold epS
        rw [rdJ, if_neg (fun z => by have := z.1; omega)]
        exact adV_2 (by omega) (by omega)
      · unfold epS
        rw [rdJ, if_neg (fun z => by have := z.1; omega)]
        exact adV_2 (by omega) (by omega)
    have hR : RgE e (paS c j S) = RgE e S := RgE_eq (by rw [oP 71 (by omega) (by omega) (by omega) (by omega)]) (oP 73 (by omega) (by omega) (by omega) (by omega))
    have ec : cn (paS c j S) = cn S := by unfold cn; rw [oP 65 (by omega) (by omega) (by omega) (by omega)]
    obtain ⟨r1, r2, r3⟩ := ih (j + 1) (paS c j S) (epS X t j T) s1 ev (by omega) (fun a ha => by
      rw [e78, oP2 21 (by omega)]
      by_cases q : a = vn S
      · rw [if_pos q, q, hv]
      · rw [if_neg q]
        exact hnm a (by omega)) (by rw [oP2 21 (by omega)]; exact hu) (fun q hq' => by
      obtain ⟨z, z1, z2, z3, z4, z5, z6⟩ := hq q hq'
      rw [oE 44 (by omega), oE 43 (by omega), hR, oP 24 (by omega) (by omega) (by omega) (by omega), oP2 21 (by omega)]
      refine ⟨z, z1, z2, fz h.1.2.2.2.2.2.1 z z3, TyR.mo s2 (fun _ _ u => u) _ _ _ z4, ?_, z6⟩
      rcases z5 with u | ⟨p, u, u1, u2⟩
      · exact Or.inl u
      · exact Or.inr ⟨p, u, u1, by omega⟩) (by omega) s3 (by rw [oP 83 (by omega) (by omega) (by omega) (by omega)]; exact h83)
    refine ⟨r1, s2.tr r2, ?_⟩
    rw [r3]
    refine lvC_62 ?_ ?_ 16384
    · funext q
      unfold epS
      rw [rdJ, if_neg (fun z => by have := z.1; omega)]
      exact adV_2 (by omega) (by omega)
    · funext q
      unfold epS
      rw [rdJ, if_neg (fun z => by have := z.1; omega)]
      exact adV_2 (by omega) (by omega)
end FPA
