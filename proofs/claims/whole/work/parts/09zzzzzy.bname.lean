/-! the name of an item on both sides -/
section CBN
variable {S S' T T' : gSt} {n t : Nat} {nm : Int64}
theorem it_findF (h : ItH S T) (hn : T.1 27 0 = nI n) (hn2 : n ≤ 24) : ff (isIt T true nm) 0 n = ff (isFu S nm) 0 (inn S) := by
  obtain ⟨n', a1, a2, a3, a4⟩ := h
  have en : n = n' := nI_inj (by omega) (by omega) (by rw [← hn, ← a2])
  subst en
  rw [a1]
  refine ff_cg n 0 (fun j _ hj => ?_)
  obtain ⟨b1, b2, b3, _⟩ := a4 j (by omega)
  unfold isIt isFu
  rw [b3]
  by_cases c : S.1 12 j = 2
  · have c' := b1.mpr c
    rw [decide_eq_true c, Bool.true_and]
    by_cases c3 : S.2 13 j = nm
    · rw [decide_eq_true c3]
      exact decide_eq_true ⟨⟨fun _ => rfl, fun _ => c'⟩, c3⟩
    · rw [decide_eq_false c3]
      exact decide_eq_false (fun w => c3 w.2)
  · have c' : ¬ T.1 28 j = 12 := fun w => c (b1.mp w)
    rw [decide_eq_false c, Bool.false_and]
    exact decide_eq_false (fun w => c' (w.1.mpr rfl))
end CBN
