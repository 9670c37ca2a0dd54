/-! every STEP, every list of STEPS, every BLOCK: both sides -/
section ZSL
variable {X : Lx} {nf d it : Nat}
theorem z_all (hX : XO X) (hnf : 16385 ≤ nf) (hz : ∀ q, xK X q = 4 → ¬ xN X q = 0) : ∀ (N : Nat) (t : Tr), ndT t < N → Zs2 nf X it t ∧ Zl0 nf X it t ∧ Zb0 nf X it t := by
  intro N
  induction N with
  | zero => intro t h; omega
  | succ N ih =>
    intro t
    induction t using Tr_ind with
    | hz t hz' =>
      intro _
      have no : ∀ mo dd, mo ≠ 1 → ¬ SG X t dd mo := fun mo dd hm h => by
        unfold SG at h
        split at h
        · exact absurd rfl (hz' _ _ _ _ _)
        · exact hm h
        · exact h
      exact ⟨fun T lo hi dd d a b v g v' g' hP => absurd hP.2.2.2.1 (no 0 _ (by omega)), z_nil hX hz', fun T lo hi dd d a b v g v' g' hP => absurd hP.2.2.2.1 (no 2 _ (by omega))⟩
    | h k i e ta tb _ _ =>
      intro hN
      rw [ndT_n] at hN
      have A := ih ta (by omega)
      have B := ih tb (by omega)
      refine ⟨?_, ?_, ?_⟩
      · intro T lo hi dd d a b v g v' g' hP
        have hg := hP.2.2.2.1
        rw [SG_n] at hg
        unfold sgN at hg
        rw [if_neg (by omega), if_neg (by omega), if_neg (by omega)] at hg
        by_cases c : k = 20
        · subst c; exact (z_20 hX hnf hz (fun _ => ce1 hX hnf hz ta)).to2 (by omega) T lo hi dd d a b v g v' g' hP
        rw [if_neg c] at hg; clear c
        by_cases c : k = 21
        · rw [if_pos c] at hg
          subst c
          have hb := hg.2
          clear hg
          obtain ⟨k2, i2, e2, tA, tB, eb⟩ : ∃ k2 i2 e2 tA tB, tb = tD k2 i2 e2 tA tB := by
            unfold SG at hb
            split at hb
            · exact ⟨_, _, _, _, _, rfl⟩
            · exact absurd hb (by decide)
            · exact hb.elim
          subst eb
          rw [SG_n] at hb
          unfold sgN at hb
          rw [if_pos rfl] at hb
          obtain ⟨k12, _⟩ := hb
          subst k12
          rw [ndT_n] at hN
          exact z_21 hX hnf hz (ih tA (by omega)).2.2 (fun _ => (ih tB (by omega)).2.2) T lo hi dd d a b v g v' g' hP
        rw [if_neg c] at hg; clear c
        by_cases c : k = 22
        · subst c; exact z_22 hX hnf hz B.2.2 T lo hi dd d a b v g v' g' hP
        rw [if_neg c] at hg; clear c
        by_cases c : k = 23
        · subst c; exact (z_23 hX hnf (ce1 hX hnf hz ta)).to2 (by omega) T lo hi dd d a b v g v' g' hP
        rw [if_neg c] at hg; clear c
        by_cases c : k = 24 ∨ k = 25 ∨ k = 30
        · rcases c with c | c | c
          · exact (z_24 hX hnf (ce1 hX hnf hz ta) (Or.inl c)).to2 (by omega) T lo hi dd d a b v g v' g' hP
          · exact (z_24 hX hnf (ce1 hX hnf hz ta) (Or.inr c)).to2 (by omega) T lo hi dd d a b v g v' g' hP
          · subst c; exact (z_30 hX hnf (ce1 hX hnf hz ta)).to2 (by omega) T lo hi dd d a b v g v' g' hP
        rw [if_neg c] at hg; clear c
        by_cases c : k = 29
        · subst c; exact (z_29 hX hnf hz).to2 (by omega) T lo hi dd d a b v g v' g' hP
        rw [if_neg c] at hg; clear c
        by_cases c : k = 26
        · subst c; exact z_26 hX hnf hz A.2.2 T lo hi dd d a b v g v' g' hP
        rw [if_neg c] at hg; clear c
        by_cases c : k = 27
        · subst c; exact (z_27 hX hnf hz).to2 (by omega) T lo hi dd d a b v g v' g' hP
        rw [if_neg c] at hg; clear c
        by_cases c : k = 28
        · subst c; exact z_28 hX hnf A.2.2 B.2.2 T lo hi dd d a b v g v' g' hP
        rw [if_neg c] at hg
        exact hg.elim
      · by_cases c : k = 11
        · subst c; exact z_list hX A.1 B.2.1
        · intro T lo hi dd d a b v g v' g' u0 fl j Q hP
          have hg := hP.2.2.2.1
          rw [SG_n] at hg
          unfold sgN at hg
          rw [if_neg (by omega), if_neg (by omega), if_pos rfl] at hg
          exact absurd hg.1 c
      · by_cases c : k = 31
        · subst c; exact z_block hX hnf A.2.1
        · intro T lo hi dd d a b v g v' g' hP
          have hg := hP.2.2.2.1
          rw [SG_n] at hg
          unfold sgN at hg
          rw [if_neg (by omega), if_pos rfl] at hg
          exact absurd hg.1 c
/-- every BLOCK -/
theorem zb (hX : XO X) (hnf : 16385 ≤ nf) (hz : ∀ q, xK X q = 4 → ¬ xN X q = 0) (t : Tr) : Zb0 nf X it t := (z_all hX hnf hz (ndT t + 1) t (by omega)).2.2
end ZSL
