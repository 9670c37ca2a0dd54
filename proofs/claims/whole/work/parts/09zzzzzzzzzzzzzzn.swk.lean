/-! what both tell */
-/
def PlA (M T : gSt) : Prop := (M.1 100 0 = 1 → ∃ n m c, M.1 102 0 = nI n ∧ n < 12000 ∧ T.1 105 0 = nI m ∧ T.1 51 0 = nI c ∧ c ≤ 6032 ∧ m < c ∧ M.1 97 n = T.1 49 m) ∧ (¬ M.1 100 0 = 1 → ¬ M.1 100 0 = 2 → ∃ e, M.1 103 0 = nI (e + 1) ∧ T.1 102 0 = nI (e + 1) ∧ e < 40 ∧ M.1 115 e = T.1 101 (17 * (e + 1) + 2))
def AnO (M T : gSt) : Prop := (M.1 100 0 = T.1 106 0 ∧ ¬ M.1 100 0 = 0 ∧ (M.1 100 0 = 3 → M.1 108 0 = T.1 107 0)) ∧ (M.1 101 0 = T.1 108 0 ∧ M.1 130 0 - M.1 132 0 = T.1 119 0 ∧ M.1 129 0 = T.1 122 0 ∧ M.1 103 0 = T.1 102 0 ∧ M.1 104 0 = T.1 113 0 ∧ M.1 105 0 = T.1 120 0 ∧ M.1 150 0 = T.1 111 0 ∧ M.1 106 0 = T.1 109 0 ∧ M.1 107 0 = T.1 121 0) ∧ (∃ na, M.1 129 0 = nI na ∧ na ≤ 321 ∧ ∀ j, j < na → M.1 133 j = T.1 123 j ∧ M.1 135 j = T.1 124 j ∧ M.1 136 j = T.1 125 j) ∧ (∃ p, M.1 104 0 = nI p ∧ p < 2 ^ 31 ∧ ∀ j, j < p → j < 300 → M.1 152 j = T.1 112 j) ∧ InO M T ∧ (∀ q, q < 40 → M.1 115 q = T.1 101 (17 * (q + 1) + 2)) ∧ PlA M T
section SWK
variable {M0 T0 M T Sf : gSt} {G : GH} {D : Nat → (Nat → AV) × Nat} {nb mk na ng P W n1 K B nf d d' : Nat} {rg : Nat → Nat} {p q : Int32}
theorem an_hp (h : HpI G D nb mk rg na ng P W M T) : M.1 130 0 - M.1 132 0 = T.1 119 0 ∧ M.1 129 0 = T.1 122 0 ∧ M.1 105 0 = T.1 120 0 ∧ ∃ na, M.1 129 0 = nI na ∧ na ≤ 321 ∧ ∀ j, j < na → M.1 133 j = T.1 123 j ∧ M.1 135 j = T.1 124 j ∧ M.1 136 j = T.1 125 j := by
  obtain ⟨⟨a1, a2, a3, a4, _⟩, ⟨b1, b2, b3, b4, b5, _⟩, ⟨c1, c2, c3, c4, c5, _⟩, ⟨ch, fr, _, r, _⟩, _⟩ := h
  refine ⟨?_, by rw [a1, a2], by rw [c4, c5], na, a1, a4, fun j hj => ?_⟩
  · have := pgU_le (T := T) (P := P)
    rw [b1, b5, b4, show nI P = nI (pgU T P) + nI (P - pgU T P) from by rw [← show nI (pgU T P + (P - pgU T P)) = nI (pgU T P) + nI (P - pgU T P) from Int32.ofNat_add _ _, Nat.add_sub_cancel' this]]
    exact Int32.add_sub_cancel _ _
  · obtain ⟨pg, u, w, m, nx, x1, x2, x3, x4, x5, x6, x7, _⟩ := r j hj
    exact ⟨by rw [x1, x2], by rw [x4, x5], by rw [x6, x7]⟩
theorem an_go (h51 : T0.1 51 0 = nI n1) (h6 : n1 ≤ 6032) (h : GoO M0 T0 Sf n1 (K + 1) P W B M T) : AnO M T := by
  obtain ⟨G, D, nb, mk, rg, na, ng, Fr, Dp, si, st, hle⟩ := h
  obtain ⟨p, S0, a1, a2, a3, a4, a5, a6, a7, a8, a9, a10, a11, _⟩ := at_st si st
  obtain ⟨⟨sim, rn, _⟩, _⟩ := si
  obtain ⟨h1, ⟨h2, h3, h4⟩, _, _, hIn, ⟨k1, ⟨pp, k2, k3, k4, k5⟩, k6, k7, k8, k9⟩, hPg, _⟩ := sim
  obtain ⟨r1, r2, r3, r4⟩ := an_hp h1
  have hIn0 := hIn
  obtain ⟨w, w1, w2, _⟩ := hIn
  refine ⟨⟨by rw [rn.1, rn.2], by rw [rn.1]; decide, fun w => by rw [rn.1] at w; exact absurd w (by decide)⟩, ⟨k1, r1, r2, by rw [h3, h4], by rw [k2, k3], r3, by rw [w1, w2], k6, by rw [k7, k8]⟩, r4, ⟨pp, k2, k4, k5⟩, hIn0, k9, fun _ => ⟨_, _, n1, a1, a2, a5, by rw [a6]; exact h51, h6, a7, by rw [a4, a9]⟩, fun w => absurd rn.1 w⟩
theorem an_en (h : EnO M0 T0 P W M T) : AnO M T := by
  obtain ⟨G, D, nb, mk, rg, na, ng, e, ⟨h1, hIn, ⟨k1, ⟨pp, k2, k3, k4, k5⟩, k6, k7, k8, k9⟩, hPg⟩, e1, e2, e3, e4, e5, e6⟩ := h
  obtain ⟨r1, r2, r3, r4⟩ := an_hp h1
  have hIn0 := hIn
  obtain ⟨w, w1, w2, _⟩ := hIn
  have n1 : ¬ M.1 100 0 = 1 := fun w => by
    rcases e5 with ⟨z, _⟩ | ⟨z, _⟩
    · rw [w] at z; exact absurd z (by decide)
    · rw [w] at z; rcases z with z | z | z <;> exact absurd z (by decide)
  refine ⟨⟨e4, fun w => ?_, e6⟩, ⟨k1, r1, r2, by rw [e1, e2], by rw [k2, k3], r3, by rw [w1, w2], k6, by rw [k7, k8]⟩, r4, ⟨pp, k2, k4, k5⟩, hIn0, k9, fun w => absurd w n1, fun _ n2 => ?_⟩
  · rcases e5 with ⟨z, _⟩ | ⟨z, _⟩
    · rw [w] at z; exact absurd z (by decide)
    · rw [w] at z; rcases z with z | z | z <;> exact absurd z (by decide)
  · rcases e5 with ⟨z, _⟩ | ⟨_, z⟩
    · exact absurd z n2
    · obtain ⟨e, rfl⟩ : ∃ e', e = e' + 1 := ⟨e - 1, by omega⟩
      exact ⟨e, e1, e2, by omega, k9 e (by omega)⟩
end SWK
