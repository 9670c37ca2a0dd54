/-! the reference's list of types: every type stands there once -/
abbrev T5 : Type := Int32 × Int32 × Int32 × Int32 × Int32
def rwT (T : gSt) (p : Nat) : T5 := (T.1 66 p, T.1 67 p, T.1 68 p, T.1 69 p, T.1 70 p)
def adT (T : gSt) (n : Nat) (x : T5) : gSt := sI (sI (sI (sI (sI (sI T 66 n x.1) 67 n x.2.1) 68 n x.2.2.1) 69 n x.2.2.2.1) 70 n x.2.2.2.2) 65 0 (nI (n + 1))
section KN
variable {nf d : Nat} {T : gSt} {n : Nat} {a b c e g : Int32}
theorem adT_row {x : T5} {p : Nat} : rwT (adT T n x) p = if p = n then x else rwT T p := by
  unfold rwT adT
  simp only [rdI]
  by_cases h : p = n
  · simp [h]
  · simp [h]
theorem adT_o {x : T5} {k : Nat} (h : k < 65 ∨ 70 < k) : (adT T n x).1 k = T.1 k := by
  unfold adT
  rw [sI_ne (by omega), sI_ne (by omega), sI_ne (by omega), sI_ne (by omega), sI_ne (by omega), sI_ne (by omega)]
theorem adT_n {x : T5} : (adT T n x).1 65 0 = nI (n + 1) := sI_v
theorem known_l (hn : T.1 65 0 = nI n) (h2 : n < 6000) : ∀ (k fl i : Nat), i + k = n → k < fl → (∀ q, 1 ≤ q → q < i → rwT T q ≠ (a, b, c, e, g)) → 1 ≤ i → (∃ p, 1 ≤ p ∧ p < n ∧ rwT T p = (a, b, c, e, g) ∧ rl_Model_known_3 (RR nf d) nf fl T a b c e g (nI i) = some (nI p, 0, T)) ∨ ((∀ q, 1 ≤ q → q < n → rwT T q ≠ (a, b, c, e, g)) ∧ rl_Model_known_3 (RR nf d) nf fl T a b c e g (nI i) = some (nI n, 0, adT T n (a, b, c, e, g))) := by
  intro k
  induction k with
  | zero =>
    intro fl i hi hf hq h1
    obtain ⟨fl', rfl⟩ : ∃ g, fl = g + 1 := ⟨fl - 1, by omega⟩
    have e0 : i = n := by omega
    subst e0
    refine Or.inr ⟨hq, ?_⟩
    have z1 : inb (nI i) 6000 := nin (by omega) (by omega)
    have c1 : (nI i).toNatClampNeg = i := nc (by omega)
    rw [rl_Model_known_3, if_pos (by rw [hn]; exact (nI_leI (by omega) (by omega)).mpr (Nat.le_refl _))]
    have o : ∀ S : gSt, S.1 65 0 = nI i → ∀ (k : Nat) (v : Int32), k ≠ 65 → (sI S k i v).1 65 0 = nI i := fun S h k v hk => by rw [sI_ne (fun e => hk e.symm)]; exact h
    have s1 := o T hn 66 a (by omega)
    have s2 := o _ s1 67 b (by omega)
    have s3 := o _ s2 68 c (by omega)
    have s4 := o _ s3 69 e (by omega)
    have s5 := o _ s4 70 g (by omega)
    simp only [gd, stK, hn, c1, s1, s2, s3, s4, s5, if_pos z1, nI_1]
    unfold adT
    rw [sI_v]
    have : nI (i + 1) - 1 = nI i := by rw [← nI_1]; exact Int32.add_sub_cancel _ _
    rw [this]
  | succ k ih =>
    intro fl i hi hf hq h1
    obtain ⟨fl', rfl⟩ : ∃ g, fl = g + 1 := ⟨fl - 1, by omega⟩
    have z1 : inb (nI i) 6000 := nin (by omega) (by omega)
    have c1 : (nI i).toNatClampNeg = i := nc (by omega)
    rw [rl_Model_known_3, if_neg (by rw [hn]; exact fun h => by have := (nI_leI (a := n) (b := i) (by omega) (by omega)).mp h; omega)]
    simp only [gd, vK, c1, if_pos z1, nI_1]
    by_cases hr : rwT T i = (a, b, c, e, g)
    · refine Or.inl ⟨i, h1, by omega, hr, ?_⟩
      unfold rwT at hr
      simp only [Prod.mk.injEq] at hr
      rw [if_pos hr.1, if_pos hr.2.1, if_pos hr.2.2.1, if_pos hr.2.2.2.1, if_pos hr.2.2.2.2]
    · have hs := ih fl' (i + 1) (by omega) (by omega) (fun q x1 x2 => by
        rcases Nat.lt_or_ge q i with h | h
        · exact hq q x1 h
        · rw [show q = i by omega]; exact hr) (by omega)
      generalize rl_Model_known_3 (RR nf d) nf fl' T a b c e g (nI (i + 1)) = R at *
      have key : ∀ (o : Option (Int32 × Int64 × gSt)), (if T.1 66 i = a then if T.1 67 i = b then if T.1 68 i = c then if T.1 69 i = e then if T.1 70 i = g then o else R else R else R else R else R) = R := by
        intro o
        by_cases x1 : T.1 66 i = a
        · by_cases x2 : T.1 67 i = b
          · by_cases x3 : T.1 68 i = c
            · by_cases x4 : T.1 69 i = e
              · by_cases x5 : T.1 70 i = g
                · exact absurd (by unfold rwT; rw [x1, x2, x3, x4, x5]) hr
                · rw [if_pos x1, if_pos x2, if_pos x3, if_pos x4, if_neg x5]
              · rw [if_pos x1, if_pos x2, if_pos x3, if_neg x4]
            · rw [if_pos x1, if_pos x2, if_neg x3]
          · rw [if_pos x1, if_neg x2]
        · rw [if_neg x1]
      rw [key]
      exact hs
theorem x_known (hn : T.1 65 0 = nI n) (h1 : 1 ≤ n) (h2 : n < 6000) (hnf : 6000 ≤ nf) : (∃ p, 1 ≤ p ∧ p < n ∧ rwT T p = (a, b, c, e, g) ∧ RR nf (d + 1) 41 T [a, b, c, e, g] [] = some (nI p, 0, T)) ∨ ((∀ q, 1 ≤ q → q < n → rwT T q ≠ (a, b, c, e, g)) ∧ RR nf (d + 1) 41 T [a, b, c, e, g] [] = some (nI n, 0, adT T n (a, b, c, e, g))) := by
  rw [e_Model_known]
  unfold rb_Model_known
  exact known_l hn h2 (n - 1) nf 1 (by omega) (by omega) (fun q x1 x2 => by omega) (Nat.le_refl _)
end KN
