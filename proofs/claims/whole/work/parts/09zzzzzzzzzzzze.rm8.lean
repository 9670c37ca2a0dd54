/-! the reference's machine: a call begins -/
/-- words a to a + i of field f told -/
def fl1 (M : gSt) (f a : Nat) (g : Nat → Int32) (i : Nat) : gSt := (fun k q => if k = f then (if a ≤ q ∧ q < a + i then g (q - a) else M.1 f q) else M.1 k q, M.2)
/-- i values from h on, to the VARS from b on -/
def cpV (M : gSt) (h b i : Nat) : gSt := (fun k q => if 117 ≤ k ∧ k ≤ 120 then (if b ≤ q ∧ q < b + i then M.1 (k - 7) (h + (q - b)) else M.1 k q) else M.1 k q, M.2)
/-- behind a call -/
def inR (M : gSt) (e h k t en : Nat) (g : Nat → Int32) : gSt := sI (sI (sI (sI (cpV (sI (fl1 M 121 (12 * (e + 1) + 1) g en) 109 0 (nI h)) h (20 * (e + 1)) k) 114 (e + 1) (M.1 102 0)) 116 (e + 1) (M.1 129 0)) 103 0 (nI (e + 2))) 102 0 (M.1 36 t)
section RM8
variable {M M' V : gSt} {nf d t a b c k n m i q fl o h p e u en f j : Nat} {w x y z v bb x1 : Int32} {g : Nat → Int32} {s : Nat → Nat}
theorem fl1_r : (fl1 M f a g i).1 k q = if k = f then (if a ≤ q ∧ q < a + i then g (q - a) else M.1 f q) else M.1 k q := rfl
theorem fl1_o (h : k ≠ f) : (fl1 M f a g i).1 k = M.1 k := by
  funext q
  rw [fl1_r, if_neg h]
theorem fl1_w : (fl1 M f a g i).1 f q = if a ≤ q ∧ q < a + i then g (q - a) else M.1 f q := by rw [fl1_r, if_pos rfl]
theorem fl1_s : sI (fl1 M f a g i) f (a + i) (g i) = fl1 M f a g (i + 1) := by
  refine st_ext (fun k q => ?_) rfl
  by_cases c : k = f
  · subst c
    rw [rdI, fl1_w, fl1_w]
    by_cases e : q = a + i
    · rw [if_pos ⟨rfl, e⟩, if_pos (by omega), e, Nat.add_sub_cancel_left]
    · rw [if_neg (fun w : k = k ∧ q = a + i => e w.2)]
      by_cases z : a ≤ q ∧ q < a + i
      · rw [if_pos z, if_pos (by omega)]
      · rw [if_neg z, if_neg (by omega)]
  · rw [sI_ne c, fl1_o c, fl1_o c]
theorem fl1_0 : fl1 M f a g 0 = M := by
  refine st_ext (fun k q => ?_) rfl
  by_cases c : k = f
  · subst c
    rw [fl1_w, if_neg (by omega)]
  · rw [fl1_o c]
theorem cpV_r : (cpV M h b i).1 k q = if 117 ≤ k ∧ k ≤ 120 then (if b ≤ q ∧ q < b + i then M.1 (k - 7) (h + (q - b)) else M.1 k q) else M.1 k q := rfl
theorem cpV_o (hk : ¬ (117 ≤ k ∧ k ≤ 120)) : (cpV M h b i).1 k = M.1 k := by
  funext q
  rw [cpV_r, if_neg hk]
theorem cpV_n (hq : ¬ (b ≤ q ∧ q < b + i)) : (cpV M h b i).1 k q = M.1 k q := by
  rw [cpV_r, if_neg hq]
  split <;> rfl
theorem cpV_v (hk : 117 ≤ k ∧ k ≤ 120) (hj : j < i) : (cpV M h b i).1 k (b + j) = M.1 (k - 7) (h + j) := by
  rw [cpV_r, if_pos hk, if_pos (by omega), Nat.add_sub_cancel_left]
theorem cpV_0 : cpV M h b 0 = M := by
  refine st_ext (fun k q => ?_) rfl
  rw [cpV_n (by omega)]
theorem cpV_s : sI (sI (sI (sI (cpV M h b i) 117 (b + i) (M.1 110 (h + i))) 118 (b + i) (M.1 111 (h + i))) 119 (b + i) (M.1 112 (h + i))) 120 (b + i) (M.1 113 (h + i)) = cpV M h b (i + 1) := by
  refine st_ext (fun k q => ?_) rfl
  by_cases e : q = b + i
  · subst e
    by_cases z : 117 ≤ k ∧ k ≤ 120
    · rw [cpV_v z (by omega)]
      rcases (by omega : k = 117 ∨ k = 118 ∨ k = 119 ∨ k = 120) with w | w | w | w <;> subst w
      · rw [sI_ne (by omega), sI_ne (by omega), sI_ne (by omega), sI_v]
      · rw [sI_ne (by omega), sI_ne (by omega), sI_v]
      · rw [sI_ne (by omega), sI_v]
      · rw [sI_v]
    · rw [sI_ne (by omega), sI_ne (by omega), sI_ne (by omega), sI_ne (by omega), cpV_o z, cpV_o z]
  · rw [rdI, if_neg (fun w => e w.2), rdI, if_neg (fun w => e w.2), rdI, if_neg (fun w => e w.2), rdI, if_neg (fun w => e w.2), cpV_r, cpV_r]
    by_cases z : 117 ≤ k ∧ k ≤ 120
    · rw [if_pos z, if_pos z]
      by_cases z2 : b ≤ q ∧ q < b + i
      · rw [if_pos z2, if_pos (by omega)]
      · rw [if_neg z2, if_neg (by omega)]
    · rw [if_neg z, if_neg z]
theorem x_inv5 (h103 : M.1 103 0 = 40) (hd : 2 ≤ d) : RR nf d 118 M [18, x, y, z] [] = some (0, 0, sI M 100 0 5) := by
  obtain ⟨d, rfl⟩ : ∃ g, d = g + 2 := ⟨d - 2, by omega⟩
  rw [e_Model_run_IIII]
  unfold rb_Model_run_IIII
  rw [if_neg (by decide), if_neg (by decide), if_neg (by decide), if_neg (by decide), if_neg (by decide), if_neg (by decide), if_neg (by decide), if_neg (by decide), if_neg (by decide), if_neg (by decide), if_neg (by decide), if_neg (by decide), if_neg (by decide), if_neg (by decide), if_neg (by decide), if_neg (by decide), if_neg (by decide), if_pos rfl, e_Model_invoke]
  unfold rb_Model_invoke
  rw [h103, if_pos rfl, stK, bis]
theorem x_inv (h103 : M.1 103 0 = nI (e + 1)) (he : e + 1 < 40) (ht : t < 24) (h19 : M.1 19 t = nI k) (hk : k ≤ 8) (h15 : M.1 15 t = nI en) (hen : en ≤ 3) (hu : u + en ≤ 4000) (h48 : ∀ j, j < en → M.1 48 (u + j) = nI (s j) ∧ s j < 12) (hg : ∀ j, j < en → g j = (if s j = 0 then 0 else M.1 121 (12 * e + s j))) (h109 : M.1 109 0 = nI (h + k)) (h8 : h + 10 < 8200) (hnf : 20 < nf) (hd : 3 ≤ d) : RR nf d 118 M [18, nI t, nI u, z] [] = some (0, 0, inR M e h k t en g) := by
  obtain ⟨d, rfl⟩ : ∃ g, d = g + 2 := ⟨d - 2, by omega⟩
  have go2 : ∀ (V : gSt), V.1 103 0 = nI (e + 1) → V.1 109 0 = nI h → ∀ (j i fl : Nat), j + i = k → j < fl → rl_Model_invoke_89 (RR nf d) nf fl (cpV V h (20 * (e + 1)) i) (nI t) (nI k) (nI i) = some (0, 0, sI (sI (sI (sI (cpV V h (20 * (e + 1)) k) 114 (e + 1) (V.1 102 0)) 116 (e + 1) (V.1 129 0)) 103 0 (nI (e + 2))) 102 0 (V.1 36 t)) := by
    intro V v1 v2 j
    have o103 : ∀ i, (cpV V h (20 * (e + 1)) i).1 103 = V.1 103 := fun i => cpV_o (by omega)
    have o109 : ∀ i, (cpV V h (20 * (e + 1)) i).1 109 = V.1 109 := fun i => cpV_o (by omega)
    have o11 : ∀ i k, 110 ≤ k → k ≤ 113 → (cpV V h (20 * (e + 1)) i).1 k = V.1 k := fun i k k1 k2 => cpV_o (by omega)
    induction j with
    | zero =>
      intro i fl h1 h2
      obtain ⟨fl, rfl⟩ : ∃ g, fl = g + 1 := ⟨fl - 1, by omega⟩
      have ei : i = k := by omega
      subst ei
      rw [rl_Model_invoke_89, if_pos (Int32.le_refl _), o103, v1, gd, if_pos (nin (by omega) (by omega)), nc (by omega), stK, sI_ne (g := 114) (g' := 103) (by omega), o103, v1, gd, if_pos (nin (by omega) (by omega)), nc (by omega), stK, sI_ne (g := 116) (g' := 103) (by omega), sI_ne (g := 114) (g' := 103) (by omega), o103, v1, stK, nI_1, gd, if_pos (nin ht (by omega)), nc (by omega), stK, sI_ne (g := 103) (g' := 36) (by omega), sI_ne (g := 116) (g' := 36) (by omega), sI_ne (g := 114) (g' := 36) (by omega), sI_ne (g := 114) (g' := 129) (by omega), cpV_o (k := 36) (by omega), cpV_o (k := 129) (by omega), cpV_o (k := 102) (by omega)]
    | succ j ih =>
      intro i fl h1 h2
      obtain ⟨fl, rfl⟩ : ∃ g, fl = g + 1 := ⟨fl - 1, by omega⟩
      have z1 : inb (nI (h + i)) 8200 := nin (by omega) (by omega)
      have z2 : inb (nI (20 * (e + 1) + i)) 820 := nin (by omega) (by omega)
      have m1 : (20 : Int32) * nI (e + 1) + nI i = nI (20 * (e + 1) + i) := by
        rw [show (20 : Int32) * nI (e + 1) = nI (20 * (e + 1)) from (Int32.ofNat_mul 20 (e + 1)).symm]
        exact (Int32.ofNat_add _ _).symm
      have m2 : nI h + nI i = nI (h + i) := (Int32.ofNat_add _ _).symm
      have c1 : (nI (h + i)).toNatClampNeg = h + i := nc (by omega)
      have c2 : (nI (20 * (e + 1) + i)).toNatClampNeg = 20 * (e + 1) + i := nc (by omega)
      rw [rl_Model_invoke_89, if_neg (show ¬ nI k ≤ nI i from fun q => by
        have := (nI_leI (a := k) (b := i) (by omega) (by omega)).mp q
        omega), o109, v2, m2, gd, if_pos z1, o103, v1, m1, gd, if_pos z2, c1, c2, stK]
      rw [sI_ne (g := 117) (g' := 109) (by omega), o109, v2, m2, gd, if_pos z1, sI_ne (g := 117) (g' := 103) (by omega), o103, v1, m1, gd, if_pos z2, c1, c2, stK]
      rw [sI_ne (g := 118) (g' := 109) (by omega), sI_ne (g := 117) (g' := 109) (by omega), o109, v2, m2, gd, if_pos z1, sI_ne (g := 118) (g' := 103) (by omega), sI_ne (g := 117) (g' := 103) (by omega), o103, v1, m1, gd, if_pos z2, c1, c2, stK]
      rw [sI_ne (g := 119) (g' := 109) (by omega), sI_ne (g := 118) (g' := 109) (by omega), sI_ne (g := 117) (g' := 109) (by omega), o109, v2, m2, gd, if_pos z1, sI_ne (g := 119) (g' := 103) (by omega), sI_ne (g := 118) (g' := 103) (by omega), sI_ne (g := 117) (g' := 103) (by omega), o103, v1, m1, gd, if_pos z2, c1, c2, stK, vK, nI_1]
      rw [sI_ne (g := 117) (g' := 111) (by omega), sI_ne (g := 118) (g' := 112) (by omega), sI_ne (g := 117) (g' := 112) (by omega), sI_ne (g := 119) (g' := 113) (by omega), sI_ne (g := 118) (g' := 113) (by omega), sI_ne (g := 117) (g' := 113) (by omega), o11 i 110 (by omega) (by omega), o11 i 111 (by omega) (by omega), o11 i 112 (by omega) (by omega), o11 i 113 (by omega) (by omega), cpV_s]
      exact ih (i + 1) fl (by omega) (by omega)
  have go1 : ∀ (j i fl : Nat), j + i = en → j < fl → rl_Model_invoke_34 (RR nf d) nf fl (fl1 M 121 (12 * (e + 1) + 1) g i) (nI t) (nI u) (nI k) (nI (12 * (e + 1))) (nI i) = some (0, 0, inR M e h k t en g) := by
    intro j
    have f1 : ∀ i k, k ≠ 121 → (fl1 M 121 (12 * (e + 1) + 1) g i).1 k = M.1 k := fun i k hk => fl1_o hk
    induction j with
    | zero =>
      intro i fl h1 h2
      obtain ⟨fl, rfl⟩ : ∃ g, fl = g + 1 := ⟨fl - 1, by omega⟩
      have ei : i = en := by omega
      subst ei
      rw [rl_Model_invoke_34, gd, if_pos (nin ht (by omega)), nc (by omega), f1 i 15 (by omega), h15, if_pos (Int32.le_refl _), f1 i 109 (by omega), h109, stK, show nI (h + k) - nI k = nI h by rw [show nI (h + k) = nI h + nI k from Int32.ofNat_add _ _]; exact Int32.add_sub_cancel _ _]
      have := go2 (sI (fl1 M 121 (12 * (e + 1) + 1) g i) 109 0 (nI h)) (by rw [sI_ne (by omega), f1 i 103 (by omega)]; exact h103) (by rw [sI_v]) k 0 nf (by omega) (by omega)
      rw [cpV_0, sI_ne (g := 109) (g' := 102) (by omega), sI_ne (g := 109) (g' := 129) (by omega), sI_ne (g := 109) (g' := 36) (by omega), f1 i 102 (by omega), f1 i 129 (by omega), f1 i 36 (by omega)] at this
      exact this
    | succ j ih =>
      intro i fl h1 h2
      obtain ⟨fl, rfl⟩ : ∃ g, fl = g + 1 := ⟨fl - 1, by omega⟩
      obtain ⟨s1, s2⟩ := h48 i (by omega)
      have rg := x_regM (nf := nf) (d := d) (T := fl1 M 121 (12 * (e + 1) + 1) g i) (e := e) (s := s i) (by rw [f1 i 103 (by omega)]; exact h103) (by omega) s2 (by omega)
      rw [show (fl1 M 121 (12 * (e + 1) + 1) g i).1 121 (12 * e + s i) = M.1 121 (12 * e + s i) by rw [fl1_w, if_neg (by omega)], ← hg i (by omega)] at rg
      rw [rl_Model_invoke_34, gd, if_pos (nin ht (by omega)), nc (m := t) (by omega), f1 i 15 (by omega), h15, if_neg (show ¬ nI en ≤ nI i from fun q => by
        have := (nI_leI (a := en) (b := i) (by omega) (by omega)).mp q
        omega), show nI u + nI i = nI (u + i) from (Int32.ofNat_add _ _).symm, gd, if_pos (nin (by omega) (by omega)), nc (m := u + i) (by omega), f1 i 48 (by omega), s1, rg, bis, nI_1, show nI (12 * (e + 1) + 1) + nI i = nI (12 * (e + 1) + 1 + i) from (Int32.ofNat_add _ _).symm, gd, if_pos (nin (by omega) (by omega)), nc (m := 12 * (e + 1) + 1 + i) (by omega), stK, vK, nI_1, fl1_s]
      exact ih (i + 1) fl (by omega) (by omega)
  rw [e_Model_run_IIII]
  unfold rb_Model_run_IIII
  rw [if_neg (by decide), if_neg (by decide), if_neg (by decide), if_neg (by decide), if_neg (by decide), if_neg (by decide), if_neg (by decide), if_neg (by decide), if_neg (by decide), if_neg (by decide), if_neg (by decide), if_neg (by decide), if_neg (by decide), if_neg (by decide), if_neg (by decide), if_neg (by decide), if_neg (by decide), if_pos rfl, e_Model_invoke]
  unfold rb_Model_invoke
  rw [h103, if_neg (show ¬ nI (e + 1) = 40 from fun w => by
    have := nI_inj (a := e + 1) (b := 40) (by omega) (by omega) w
    omega), gd, if_pos (nin ht (by omega)), nc (by omega), h19, vK, vK, show (12 : Int32) * nI (e + 1) = nI (12 * (e + 1)) from (Int32.ofNat_mul 12 (e + 1)).symm]
  have := go1 en 0 nf (by omega) (by omega)
  rw [fl1_0] at this
  exact (congrArg (fun z => bi z (fun _ _ T47 => some ((0 : Int32), (0 : Int64), T47))) this).trans bis
end RM8
