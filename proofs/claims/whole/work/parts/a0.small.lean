theorem pn_lt {f : Nat → Int32} {a n : Nat} (h : ∀ j, j < n → (f (a + j)).toBitVec.toNat < 256) : pn f a n < 256 ^ n := by
  induction n with
  | zero => exact Nat.one_pos
  | succ n ih =>
    have h1 := ih (fun j hj => h j (by omega))
    have h2 := h n (by omega)
    show pn f a n * 256 + (f (a + n)).toBitVec.toNat < 256 ^ (n + 1)
    rw [Nat.pow_succ]
    omega
theorem pkd_pn {f : Nat → Int32} {a n : Nat} (hn : n ≤ 8) (h : ∀ j, j < n → (f (a + j)).toBitVec.toNat < 256) : (pkd f a n).toBitVec.toNat = pn f a n := by
  induction n with
  | zero => rfl
  | succ n ih =>
    have h1 := ih (by omega) (fun j hj => h j (by omega))
    have h2 := pn_lt (f := f) (a := a) (n := n) (fun j hj => h j (by omega))
    have h3 : 256 ^ n ≤ 256 ^ 7 := Nat.pow_le_pow_right (by decide) (by omega)
    have h4 : (256 : Nat) ^ 7 = 2 ^ 56 := by decide
    show ((pkd f a n <<< ((8 : Int32).toInt64 &&& 63)) ||| (f (a + n)).toInt64).toBitVec.toNat = pn f a n * 256 + (f (a + n)).toBitVec.toNat
    rw [pk_step (by rw [h1]; omega) (h n (by omega)), h1]
theorem small_all {f : Nat → Int32} {a n : Nat} : ∀ {k : Nat}, n ≤ k → (∀ j, j < n → 0 < (f (a + j)).toBitVec.toNat ∧ (f (a + j)).toBitVec.toNat < 256) → smallB k (pn f a n) = true → ∀ j, j < n → 97 ≤ (f (a + j)).toBitVec.toNat := by
  induction n with
  | zero => intro k _ _ _ j hj; omega
  | succ n ih =>
    intro k hk h hs j hj
    cases k with
    | zero => omega
    | succ k =>
      have hc := h n (by omega)
      have m1 : (pn f a n * 256 + (f (a + n)).toBitVec.toNat) % 256 = (f (a + n)).toBitVec.toNat := by omega
      have m2 : (pn f a n * 256 + (f (a + n)).toBitVec.toNat) / 256 = pn f a n := by omega
      have m3 : ¬ pn f a n * 256 + (f (a + n)).toBitVec.toNat = 0 := by omega
      have hs2 : (decide (pn f a n * 256 + (f (a + n)).toBitVec.toNat = 0) || (decide (97 ≤ (pn f a n * 256 + (f (a + n)).toBitVec.toNat) % 256) && decide ((pn f a n * 256 + (f (a + n)).toBitVec.toNat) % 256 ≤ 122) && smallB k ((pn f a n * 256 + (f (a + n)).toBitVec.toNat) / 256))) = true := hs
      rw [m1, m2] at hs2
      simp only [Bool.or_eq_true, Bool.and_eq_true, decide_eq_true_eq] at hs2
      have hs3 := hs2.resolve_left m3
      by_cases e : j = n
      · rw [e]; exact hs3.1.1
      · exact ih (k := k) (by omega) (fun i hi => h i (by omega)) hs3.2 j (by omega)
theorem byt_nI {m : Nat} (h : m < 256) : (nI m).toBitVec.toNat = m := by
  show (BitVec.ofNat 32 m).toNat = m
  rw [BitVec.toNat_ofNat]
  exact Nat.mod_eq_of_lt (by omega)
theorem cL_pos : ∀ m, m < 256 → cL (nI m) → 0 < m ∧ (97 ≤ m → ¬ cG (nI m)) := by decide +kernel
theorem cL_byte {x : Int32} (h : cL x) : ∃ m, m < 256 ∧ x = nI m := by
  refine ch_nI ?_
  simp only [cL, i_le, Int32.reduceToInt] at h ⊢
  omega
theorem WL_small : ∀ j, j < 26 → smallB 8 (WL.getD j 0).toBitVec.toNat = true := by decide +kernel
/-- a kept word has no great letter -/
theorem kept_small {f : Nat → Int32} {a n : Nat} (hn : n ≤ 8) (hc : ∀ j, j < n → cL (f (a + j))) (hk : ¬ ff (isW (wt 133) (pkd f a n)) 0 26 = -1) : ¬ sml f a n = 0 := by
  have hb : ∀ j, j < n → 0 < (f (a + j)).toBitVec.toNat ∧ (f (a + j)).toBitVec.toNat < 256 := fun j hj => by
    obtain ⟨m, h1, h2⟩ := cL_byte (hc j hj)
    have h3 := hc j hj
    rw [h2] at h3 ⊢
    rw [byt_nI h1]
    exact ⟨(cL_pos m h1 h3).1, h1⟩
  rw [sml_iff]
  intro j hj
  have key : smallB 8 (pn f a n) = true := by
    refine Decidable.byContradiction (fun z => hk ((ff_all (by decide)).mpr (fun i _ hi y => z ?_)))
    have e := of_decide_eq_true y
    have hi : i < 26 := by omega
    rw [← pkd_pn hn (fun j hj => (hb j hj).2), ← e, wt_val hi]
    exact WL_small i hi
  have h97 := small_all hn hb key j hj
  obtain ⟨m, h1, h2⟩ := cL_byte (hc j hj)
  have h3 := hc j hj
  rw [h2] at h3 h97 ⊢
  rw [byt_nI h1] at h97
  exact (cL_pos m h1 h3).2 h97
