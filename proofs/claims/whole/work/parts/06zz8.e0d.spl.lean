/-! two worlds that lie side by side */
-/
section SPL
variable {D : va_G} {cl : List vw_C} {w1 w2 : va_W} {H : Heap} {A : Nat → Prop}
theorem spl_l {k : Nat} {q : Nat × va_E} (h : w1[k]? = some q) : (w1 ++ w2)[k]? = some q := by
  rw [List.getElem?_append_left (List.getElem?_eq_some_iff.mp h).1]
  exact h
theorem spl_r {k : Nat} {q : Nat × va_E} (h : w2[k]? = some q) : (w1 ++ w2)[w1.length + k]? = some q := by
  rw [List.getElem?_append_right (Nat.le_add_right _ _), Nat.add_sub_cancel_left]
  exact h
theorem va_Pl (h : va_P D cl (w1 ++ w2) H) : va_P D cl w1 H := fun k q hk => h k q (spl_l hk)
theorem va_Pr (h : va_P D cl (w1 ++ w2) H) : va_P D cl w2 H := fun k q hk => h (w1.length + k) q (spl_r hk)
theorem va_Dl (h : va_D A (w1 ++ w2)) : va_D A w1 := ⟨fun i j p q hi hj e => h.1 i j p q (spl_l hi) (spl_l hj) e, fun k q hk => h.2 k q (spl_l hk)⟩
theorem va_Dr (h : va_D A (w1 ++ w2)) : va_D A w2 := ⟨fun i j p q hi hj e => by
  have := h.1 _ _ p q (spl_r hi) (spl_r hj) e
  omega, fun k q hk => h.2 _ q (spl_r hk)⟩
theorem va_Dx (h : va_D A (w1 ++ w2)) : ∀ (i j : Nat) (p q : Nat × va_E), w1[i]? = some p → w2[j]? = some q → p.1 ≠ q.1 := fun i j p q hi hj e => by
  have z := h.1 _ _ p q (spl_l hi) (spl_r hj) e
  have := (List.getElem?_eq_some_iff.mp hi).1
  omega
end SPL
