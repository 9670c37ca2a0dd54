/-! the end of a head, on both sides: fields, result, dead, where -/
/-- what goes together between two heads, no fault told -/
def HsR (X : Lx) (S T : gSt) : Prop := TkC X T ∧ ItH S T ∧ Tg S ∧ S.1 7 0 = 0 ∧ T.1 53 0 = 0 ∧ WT T
def HbP (X : Lx) (S S' T : gSt) (t c : Nat) (x : It) (T' : gSt) : Prop := (HsR X S' T' ∧ TyF S S' T T' ∧ HcR X S' T' t c x ∧ lvC T' 16384 ≤ lvC T 16384 + 6 * (x.2.2.1.length + 1)) ∨ BfR S' T'
section CHF
variable {S S' T T' T1 : gSt} {X : Lx} {nf d i k n m t e w dt wt c a b rt : Nat} {N : Nat → Int64} {l : List Nat} {x : It} {bd : Tr}
theorem HeS.fh (h : HeS X S t c x) (hF : FH S S') : HeS X S' t c x := by
  obtain ⟨i, e, l, rt, dt, n, wt, w, bd⟩ := x
  obtain ⟨a1, a2, a3, a4, a5, a6, a7, a8⟩ := h
  have o := fun k h1 h2 h3 h4 h5 h6 => hF.1 k h1 h2 h3 h4 h5 h6
  refine ⟨by rw [o 12 (by omega) (by omega) (by omega) (by omega) (by omega) (by omega)]; exact a1, by rw [o 14 (by omega) (by omega) (by omega) (by omega) (by omega) (by omega)]; exact a2, a3, by rw [o 15 (by omega) (by omega) (by omega) (by omega) (by omega) (by omega)]; exact a4, fun k hk => ⟨by rw [hF.2.1 16 (by omega)]; exact (a5 k hk).1, by rw [o 17 (by omega) (by omega) (by omega) (by omega) (by omega) (by omega)]; exact (a5 k hk).2⟩, fun k hk => by rw [hF.2.1 21 (by omega)]; exact a6 k hk, fun k hk => ⟨by rw [hF.2.1 28 (by omega)]; exact (a7 k hk).1, by rw [o 29 (by omega) (by omega) (by omega) (by omega) (by omega) (by omega)]; exact (a7 k hk).2⟩, fun k hk => ?_⟩
  obtain ⟨b1, b2, b3, b4⟩ := a8 k hk
  rw [← o 33 (by omega) (by omega) (by omega) (by omega) (by omega) (by omega)] at b2 b4
  rw [← hF.2.1 32 (by omega)] at b1 b3
  exact ⟨b1, b2, b3, b4⟩
theorem HeT.hk {s : Nat} (h : HeT X T s x) (hF : FhK t T T') : HeT X T' s x := by
  have o : ∀ k j, (27 ≤ k ∧ k ≤ 37) ∨ k = 43 → T'.1 k j = T.1 k j := fun k j hk => hF.1 k j (by omega) (by omega) (by omega) (by omega) (by omega) (by omega) (by omega) (by omega) (by omega) (by omega) (by omega)
  obtain ⟨i, e, l, rt, dt, n, wt, w, bd⟩ := x
  obtain ⟨a1, a2, a3, a4, a5, a6, a7, a8, a9, a10⟩ := h
  exact ⟨by rw [o 28 s (by omega)]; exact a1, by rw [o 29 s (by omega)]; exact a2, by rw [hF.2.1 30 s (by omega) (by omega) (by omega)]; exact a3, by rw [o 31 s (by omega)]; exact a4, by rw [o 32 s (by omega)]; exact a5, a6, fun k hk => by rw [o 43 _ (by omega)]; exact a7 k hk, by rw [o 33 s (by omega)]; exact a8, by rw [o 34 s (by omega)]; exact a9, by rw [o 35 s (by omega)]; exact a10⟩
/-- a head as the class holds it -/
theorem HeT.wh (hX : XO X) (h : HeT X T t (i, e, l, rt, dt, n, wt, w, bd)) (hg : hgO X (i, e, l, rt, dt, n, wt, w, bd)) (he : e ≤ 3) (hk : ItOk X (i, e, l, rt, dt, n, wt, w, bd) a b) (hb : b ≤ xn X) : WH X T t l.length ∧ rt < 70000 ∧ dt < 70000 ∧ wt < 70000 ∧ i + 1 + e < xn X := by
  have hxn := hX.1
  have kn : ∀ q, ¬ xK X q = 0 → q < xn X := fun q hq => Decidable.byContradiction fun w => hq ((hX.2 q).1 (by omega)).1
  obtain ⟨a1, a2, a3, a4, a5, a6, a7, a8, a9, a10⟩ := h
  obtain ⟨g0, g1, g2, g3, g4, g5⟩ := hg
  obtain ⟨k1, k2, k3, k4, k5, k6, k7⟩ := hk
  have ie : i + 1 + e < xn X := by
    by_cases c0 : e = 0
    · have := kn (i + 1) (by omega); omega
    · have := kn (i + 2 + (e - 1)) (by rw [g1 (e - 1) (by omega)]; omega); omega
  have r1 : rt < 70000 := by
    by_cases c0 : rt = 0
    · omega
    · have := (k5 c0).2
      have := tyE_ge (X := X) 6 rt
      omega
  have d1 : dt < 70000 := by
    rcases g4 with g | ⟨g, g', g''⟩
    · omega
    · have := (rgs_b (xK X) 3 dt).2 0 (by omega)
      have := kn dt (by rw [Nat.add_zero] at this; omega)
      omega
  have w1 : wt < 70000 := by
    rcases g5 with g | ⟨g, g', g'', g3'⟩
    · omega
    · have := (g3' 0 (by omega)).1
      have := kn wt (by rw [Nat.mul_zero, Nat.add_zero] at this; omega)
      omega
  refine ⟨⟨⟨a5, a6, fun k hk => ⟨l.getD k 0, by have := a7 k hk; rw [show 8 * t + 0 + k = 8 * t + k by omega] at this; exact this, ?_⟩⟩, i + 1, e, rt, dt - 1, wt - 1, a2, a4, he, ie, a8, by omega, a9, by omega, a10, by omega⟩, r1, d1, w1, ie⟩
  have := (k4 k hk).2
  have := tyE_ge (X := X) 6 (l.getD k 0 + 2)
  omega
theorem tl_bad (h : ¬ S.1 7 0 = 0) : (tlS X t rt n w S).1 7 0 = S.1 7 0 ∧ (tlS X t rt n w S).1 8 0 = S.1 8 0 := by
  unfold tlS
  split
  · have r : (rtS X t rt S).1 7 0 = S.1 7 0 ∧ (rtS X t rt S).1 8 0 = S.1 8 0 := by
      unfold rtS
      split
      · exact ⟨by rw [sI_ne (by omega), sI_ne (by omega)], by rw [sI_ne (by omega), sI_ne (by omega)]⟩
      · rw [me_bad h]
        exact ⟨by rw [sI_ne (by omega), sI_ne (by omega)], by rw [sI_ne (by omega), sI_ne (by omega)]⟩
    have h2 : ¬ (rtS X t rt S).1 7 0 = 0 := by rw [r.1]; exact h
    rw [de_bad _ _ _ h2, wh_bad _ _ _ h2]
    exact r
  · exact ⟨rfl, rfl⟩
end CHF
