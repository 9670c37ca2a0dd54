/-! both new worlds, as graphs */
-/
set_option maxRecDepth 100000 in
set_option maxHeartbeats 8000000 in
theorem gD_2 {A : Nat → Prop} {hm hm2 : Nat → Nat} {km km2 : Nat → ClassId} {x0 m0 : Nat} (h : va_D A (wH hm km x0 ++ at_mo0 hm2 km2 m0)) : va_D A (gW LH (adHf hm x0) (kmHf km) T00 ++ gW LM (fun o => if o = 0 then m0 else hm2 (o - 1)) km2 M00) := by
  rw [← gW_M]
  exact h.sub [0, 2, 15, 36, 41, 43, 45, 42, 52, 51, 53, 59, 1, 3, 4, 5, 6, 7, 8, 9, 10, 11, 12, 13, 14, 16, 17, 18, 19, 20, 21, 22, 23, 24, 25, 26, 27, 28, 29, 30, 31, 32, 33, 34, 35, 37, 38, 39, 40, 44, 46, 47, 48, 49, 50, 54, 55, 56, 57, 58, 60, 61, 62, 63, 64, 65, 66, 67, 68, 69, 70, 71, 72, 73, 74, 75, 76, 77, 78, 79, 80, 81, 82, 83, 84, 85, 86, 87, 88, 89, 90, 91, 92, 93, 94, 95, 96, 97, 98, 99, 100, 101, 102, 103, 104, 105, 106, 107, 108, 109, 110, 111, 112, 113, 114, 115, 116, 117, 118, 119, 120, 121, 122, 123, 124, 125, 126, 127, 128, 129, 130, 131, 132, 133, 134, 135, 136, 137, 138, 139, 140, 141, 142, 143, 144, 145, 146, 147, 148, 149, 150, 151, 152, 153, 154, 155, 156, 157, 158, 159, 160, 161, 162, 163, 164, 165, 166, 167] (by decide) rfl
theorem gW_at {L : gL} {ad : Nat → Nat} {km : Nat → ClassId} {T : gSt} {o : Nat} (h : o < gO L + gA L) : ∃ e, (gW L ad km T)[o]? = some (ad o, e) := by
  by_cases c : o < gO L
  · exact ⟨_, gW_o c⟩
  · obtain ⟨i, rfl⟩ : ∃ i, o = gO L + i := ⟨o - gO L, by omega⟩
    exact ⟨_, gW_a (by omega)⟩
theorem gApt {A : Nat → Prop} {L L' : gL} {ad ad' : Nat → Nat} {km km' : Nat → ClassId} {T T' : gSt} (h : va_D A (gW L ad km T ++ gW L' ad' km' T')) : Apt (gO L + gA L) (gO L' + gA L') ad ad' := fun o o' h1 h2 => by
  obtain ⟨e, he⟩ := gW_at (L := L) (ad := ad) (km := km) (T := T) h1
  obtain ⟨e', he'⟩ := gW_at (L := L') (ad := ad') (km := km') (T := T') h2
  exact va_Dx h o o' _ _ he he'
