/-! two new objects */
-/
section SWS
theorem wN_0 : wN 0 = 0 := by decide
theorem inv_0 : Inv 0 M00 T00 := by
  have eE : EW T00 = 0 := by
    show wN 0 = 0
    exact wN_0
  have eS : ∀ s, SW T00 s = 0 := fun s => by
    show wN 0 = 0
    exact wN_0
  have m : ∀ k j, k ≠ 8 → M00.1 k j = 0 := fun k j hk => by
    show (if k = 8 ∧ j = 0 then (-1 : Int32) else 0) = 0
    rw [if_neg (fun w => hk w.1)]
  have t : ∀ k j, k ≠ 54 → T00.1 k j = 0 := fun k j hk => by
    show (if k = 54 ∧ j = 0 then (-1 : Int32) else 0) = 0
    rw [if_neg (fun w => hk w.1)]
  refine ⟨⟨0, rfl, ⟨rfl, by omega, fun j _ => by rw [t 0 j (by omega)]; decide, fun j _ => rfl, rfl, by rw [eE]; decide, fun s _ => by rw [eS, eE, Nat.zero_div]; exact Nat.le_refl _⟩, by rw [eE]; exact Nat.le_refl _, ?_⟩, ⟨fun c _ => Or.inl (m 74 c (by omega)), fun _ => rfl, fun _ => rfl⟩, Or.inl ⟨rfl, rfl⟩, Or.inl ⟨rfl, rfl⟩, Or.inl ⟨rfl, rfl, fun k hk => m k 0 (by omega)⟩, fun q _ => by rw [m 115 q (by omega), t 101 _ (by omega)]⟩
  funext j
  rw [t 0 j (by omega), m 0 j (by omega)]
end SWS
