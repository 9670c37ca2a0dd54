/-! between calls: build */
-/
section SWQ
variable {M T M' T' : gSt} {i nf d d' : Nat}
theorem v_build (h : Inv i M T) (hi : i ≤ 600) (hnf : 970000 ≤ nf) (hd : 700 ≤ d) (hd' : 543 ≤ d') : ∃ r l l' M' T', RR nf (d + 2) 126 M [] [] = some (r, l, M') ∧ PP nf d' 3 T [] [] = some (r, l', T') ∧ Inv (i + 1) M' T' := by
  obtain ⟨⟨z, z1, cb, z3, z4⟩, ⟨r1, r2, r3⟩, fl, pr, rn, co⟩ := h
  obtain ⟨r, l, M', e1, r', l', T', e2, e3, ⟨ci, ri, b0, b1, b9, b7, b8, b100, bp⟩, i7, i5⟩ := b_bld2 (nf := nf) (d := d) (d' := d') (by omega) hd hd' z1 r1 cb z4 r2 r3
  subst e3
  obtain ⟨t0, t1, t2, t106, tk, tk2, t26, t71, tE, tS⟩ := ci
  obtain ⟨c1, c2, c3, c4, c5, c6, c7⟩ := cb
  refine ⟨r', l, l', M', T', e1, e2, ⟨0, b1, ⟨t1, by omega, fun j hj => by rw [t0]; exact c3 j hj, fun j hj => by rw [t26]; exact c4 j hj, t71, ?_, tS⟩, by omega, by rw [t0, b0]; exact z4⟩, ⟨ri, i7, i5⟩, Or.inr ⟨b9, t2, b7, b8⟩, ?_, Or.inl ⟨by rw [b100 100 (by omega)]; rfl, t106, fun k hk => ?_⟩, fun q hq => ?_⟩
  · have : EW T' ≤ 601 := by omega
    have : (602 : Nat) < 2 ^ 40 := by decide
    omega
  · rcases bp with bp | ⟨q1, q2, X, its, S, Sf, pg⟩
    · exact Or.inl bp
    · obtain ⟨n1, n27, u, pa⟩ := prg_a pg
      exact Or.inr ⟨q1, q2, prg_b pg.2, M', T', Sf, n1, n27, u, pa, fun _ _ => rfl, rfl, fun _ _ => rfl, rfl⟩
  · rw [b100 k (by omega)]
    obtain w | w | w | w | w | w | w | w | w | w : k = 101 ∨ k = 103 ∨ k = 104 ∨ k = 105 ∨ k = 106 ∨ k = 107 ∨ k = 129 ∨ k = 130 ∨ k = 132 ∨ k = 150 := by omega
    all_goals subst w; rfl
  · rw [b100 115 (by omega), tk 101 (by omega) (by omega)]
    have e : (stpS M).1 115 = M.1 115 := by
      unfold stpS
      rw [sI_ne (by omega), sI_ne (by omega), sI_ne (by omega), sI_ne (by omega), sI_ne (by omega), sI_ne (by omega), sI_ne (by omega), sI_ne (by omega), sI_ne (by omega), sI_ne (by omega), sI_ne (by omega), sI_ne (by omega), sI_ne (by omega), sI_ne (by omega)]
    rw [e]
    exact co q hq
end SWQ
