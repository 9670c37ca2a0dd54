/-! addresses of a graph */
-/
section GC3
variable {L : gL} {ad : Nat → Nat} {km : Nat → ClassId} {T : gSt} {dC : Nat → ClassId} {dI : Nat → Nat → Nat} {H : Heap}
theorem gW_ad {k : Nat} {q : Nat × va_E} (h : (gW L ad km T)[k]? = some q) : k < gO L + gA L ∧ q.1 = ad k := by
  have hk : k < gO L + gA L := by
    rw [← gW_len (L := L) (ad := ad) (km := km) (T := T)]
    exact (List.getElem?_eq_some_iff.mp h).1
  refine ⟨hk, ?_⟩
  by_cases c : k < gO L
  · rw [gW_o c] at h
    injection h with h
    rw [← h]
  · obtain ⟨i, rfl⟩ : ∃ i, k = gO L + i := ⟨k - gO L, by omega⟩
    rw [gW_a (by omega)] at h
    injection h with h
    rw [← h]
/-- two graphs apart, both below the end */
-/
def Apt (nH nM : Nat) (adH adM : Nat → Nat) : Prop := ∀ o o', o < nH → o' < nM → adH o ≠ adM o'
theorem Apt.w {L' : gL} {ad' : Nat → Nat} {km' : Nat → ClassId} {T' : gSt} (h : Apt (gO L + gA L) (gO L' + gA L') ad ad') : ∀ (i j : Nat) (p q : Nat × va_E), (gW L ad km T)[i]? = some p → (gW L' ad' km' T')[j]? = some q → p.1 ≠ q.1 := fun i j p q hp hq => by
  obtain ⟨a1, a2⟩ := gW_ad hp
  obtain ⟨b1, b2⟩ := gW_ad hq
  rw [a2, b2]
  exact h i j a1 b1
theorem Apt.sy {nH nM : Nat} {adH adM : Nat → Nat} (h : Apt nH nM adH adM) : Apt nM nH adM adH := fun o o' h1 h2 e => h o' o h2 h1 e.symm
def Blw (n : Nat) (ad : Nat → Nat) (z : Nat) : Prop := ∀ o, o < n → ad o < z
theorem Blw.w {z : Nat} (h : Blw (gO L + gA L) ad z) : ∀ (k : Nat) (q : Nat × va_E), (gW L ad km T)[k]? = some q → q.1 < z := fun k q hk => by
  obtain ⟨a1, a2⟩ := gW_ad hk
  rw [a2]
  exact h k a1
theorem Blw.up {n z z' : Nat} (h : Blw n ad z) (hz : z ≤ z') : Blw n ad z' := fun o ho => Nat.lt_of_lt_of_le (h o ho) hz
end GC3
