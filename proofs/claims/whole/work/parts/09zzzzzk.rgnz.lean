/-! a REGION's name is none of the empty ones -/
section CNZ
variable {f : Nat → Int32} {z p n a : Nat}
theorem pn_pos (h : 1 ≤ (f a).toBitVec.toNat) : ∀ n, 1 ≤ pn f a (n + 1) := by
  intro n
  induction n with
  | zero => rw [pn, pn, Nat.add_zero]; omega
  | succ n ih => rw [pn]; omega
theorem c255 {x : Int32} (h0 : 0 ≤ x) (h1 : x ≤ 255) : x.toBitVec.toNat < 256 := by
  have a : (0 : Int32).toInt ≤ x.toInt := Int32.le_iff_toInt_le.mp h0
  have b : x.toInt ≤ (255 : Int32).toInt := Int32.le_iff_toInt_le.mp h1
  have e0 : (0 : Int32).toInt = 0 := by decide
  have e1 : (255 : Int32).toInt = 255 := by decide
  rw [e0] at a
  rw [e1] at b
  have : x.toInt = x.toBitVec.toInt := rfl
  rw [this, BitVec.toInt_eq_toNat_cond] at a b
  split at a <;> omega
theorem c_pos {x : Int32} (h0 : 0 ≤ x) (h1 : x ≤ 255) (h : ¬ x = 0) : 1 ≤ x.toBitVec.toNat := by
  rcases Nat.eq_zero_or_pos x.toBitVec.toNat with e | e
  · exfalso
    apply h
    apply Int32.toBitVec_inj.mp
    apply BitVec.eq_of_toNat_eq
    rw [e]
    rfl
  · exact e
theorem rl_bd : ∀ (m a : Nat), rl f a m ≤ m := by
  intro m
  induction m with
  | zero => intro a; rw [rl]; exact Nat.le_refl _
  | succ m ih =>
    intro a
    rw [rl]
    split
    · have := ih (a + 1); omega
    · omega
theorem rg_nz (hz : z ≤ 4000) (hc : ∀ j, j < z → 0 ≤ f j ∧ f j ≤ 255) (q : Nat) (h : xK (mkX f z) q = 4) : ¬ xN (mkX f z) q = 0 := by
  have hk : kT f z (tkAt f z (sk f z 0) q) = 4 := h
  show ¬ tokV f z (tkAt f z (sk f z 0) q) = 0
  generalize tkAt f z (sk f z 0) q = p at *
  unfold kT at hk
  by_cases hp : z ≤ p
  · rw [if_pos hp] at hk; omega
  rw [if_neg hp] at hk
  obtain ⟨k, k1, k2⟩ := tokK_nn (f := f) (fw := wt 133) (z := z) p
  rw [k2, nc (by omega)] at hk
  subst hk
  have k4 : tokK f (wt 133) z p = 4 := k2
  have nm : ∀ n w, ¬ kName f (wt 133) p n w = 4 := by
    intro n w
    unfold kName
    split
    · decide
    · split
      · decide
      · split
        · split <;> decide
        · rename_i h
          rcases ff_val (p := isW (wt 133) w) (k := 26) (i := 0) with e | ⟨j, _, h2, _, e⟩
          · exact absurd e h
          · rw [e, show (10 : Int32) = nI 10 from rfl, show nI 10 + nI j = nI (10 + j) from (Int32.ofNat_add _ _).symm]
            intro w
            have := nI_inj (b := 4) (by omega) (by omega) w
            omega
  unfold tokK at k4
  by_cases c1 : f p = 39 ∨ cL (f p)
  · rw [if_pos c1] at k4
    unfold sK at k4
    by_cases c39 : f p = 39
    · rw [if_pos c39] at k4
      have sn : sN f z p ≤ z - (p + 1) := rl_bd _ _
      have fc : 1 ≤ sN f z p ∧ sN f z p ≤ 8 ∧ ¬ f (p + 1) = 0 := by
        unfold kReg at k4
        by_cases e1 : sN f z p = 1 ∧ f (p + 1) = 72
        · exact ⟨by omega, by omega, by rw [e1.2]; decide⟩
        · rw [if_neg e1] at k4
          by_cases e2 : 0 < sN f z p ∧ sN f z p ≤ 8 ∧ cS (f (p + 1)) ∧ ff (bad1 f (p + 1) 1) 0 (sN f z p) = -1
          · refine ⟨e2.1, e2.2.1, fun w => ?_⟩
            have := e2.2.2.1.1
            rw [w] at this
            exact absurd this (by decide)
          · rw [if_neg e2] at k4
            exact absurd k4 (by decide)
      unfold tokV sV
      rw [if_pos c1, if_pos c39]
      intro w
      have e := pkd_pn (f := f) (a := p + 1) (n := sN f z p) fc.2.1 (fun j hj => c255 (hc _ (by omega)).1 (hc _ (by omega)).2)
      rw [w] at e
      obtain ⟨n, hn⟩ : ∃ n, sN f z p = n + 1 := ⟨sN f z p - 1, by omega⟩
      rw [hn] at e
      have := pn_pos (f := f) (a := p + 1) (c_pos (hc _ (by omega)).1 (hc _ (by omega)).2 fc.2.2) n
      have z0 : (0 : Int64).toBitVec.toNat = 0 := rfl
      omega
    · rw [if_neg c39] at k4
      split at k4
      · split at k4
        · exact absurd k4 (by decide)
        · exact absurd k4 (by decide)
      · exact absurd k4 (nm _ _)
  · rw [if_neg c1] at k4
    split at k4
    · exact absurd k4 (by decide)
    · split at k4
      · rename_i hf
        obtain ⟨j, hj, e⟩ := ff_nn (by omega) hf
        rw [e, show (40 : Int32) = nI 40 from rfl, show nI 40 + nI j = nI (40 + j) from (Int32.ofNat_add _ _).symm] at k4
        have := nI_inj (b := 4) (by omega) (by omega) k4
        omega
      · exact absurd k4 (by decide)
end CNZ
