/-! every EXPR on both sides -/
section CYZ
variable {X : Lx} {nf d : Nat}
theorem ce_all (hX : XO X) (hnf : 16385 ≤ nf) (hz : ∀ q, xK X q = 4 → ¬ xN X q = 0) : ∀ (N : Nat) (t : Tr), ndT t < N → CE0 nf X t ∧ CE1 nf X t := by
  intro N
  induction N with
  | zero => intro t h; omega
  | succ N ih =>
    intro t
    induction t using Tr_ind with
    | hz t hz' =>
      intro _
      have no : ∀ mo, mo ≠ 2 → ∀ T lo hi z, ¬ RcG X T t mo lo hi z := by
        intro mo hm T lo hi z h
        unfold RcG at h
        split at h
        · exact absurd rfl (hz' _ _ _ _ _)
        · exact hm h.1
        · exact h
      exact ⟨fun T lo hi z a b m dd d stop Q hP => absurd hP.1 (no 0 (by omega) _ _ _ _), fun T lo hi z a b m dd d Q hP => absurd hP.1 (no 1 (by omega) _ _ _ _)⟩
    | h k i e ta tb _ _ =>
      intro hN
      have hN' := hN
      rw [ndT_n] at hN'
      have A := ih ta (by omega)
      have B := ih tb (by omega)
      have I : ∀ t, ndT t < ndT (tD k i e ta tb) → CE0 nf X t ∧ CE1 nf X t := fun t ht => ih t (by omega)
      have c0 : CE0 nf X (tD k i e ta tb) := by
        by_cases c1 : k = 1
        · subst c1; exact e_leaf hX hnf
        by_cases c2 : k = 2
        · subst c2; exact e_paren hX hnf A.2
        by_cases c3 : k = 3
        · subst c3; exact e_tl3 hX hnf A.1
        by_cases c4 : k = 4
        · subst c4; exact e_tl4 hX hnf A.1 B.2
        by_cases c6 : k = 6
        · subst c6; exact e_call hX hnf hz (fun t ht => (I t ht).2)
        by_cases c7 : k = 7
        · subst c7; exact e_new hX hnf hz (fun t ht => (I t ht).2)
        by_cases c8 : k = 8
        · subst c8; exact e_k8 hX hnf hz A.2 B.2
        by_cases c9 : k = 9
        · subst c9; exact e_and hX hnf I
        intro T lo hi z a b m dd d stop Q hP
        have h := hP.1
        rw [RcG_n] at h
        unfold RcN Rc0 at h
        rw [if_neg (by omega), if_neg (by omega), if_neg c1, if_neg c2, if_neg c3, if_neg c4, if_neg c6, if_neg c7, if_neg c8, if_neg c9] at h
        exact h.elim
      refine ⟨c0, ?_⟩
      by_cases c5 : k = 5
      · subst c5; exact e_x5 hX hnf A.2 B.1
      · exact e_x1 hX hnf c5 c0
theorem ce0 (hX : XO X) (hnf : 16385 ≤ nf) (hz : ∀ q, xK X q = 4 → ¬ xN X q = 0) (t : Tr) : CE0 nf X t := (ce_all hX hnf hz (ndT t + 1) t (by omega)).1
theorem ce1 (hX : XO X) (hnf : 16385 ≤ nf) (hz : ∀ q, xK X q = 4 → ¬ xN X q = 0) (t : Tr) : CE1 nf X t := (ce_all hX hnf hz (ndT t + 1) t (by omega)).2
end CYZ
