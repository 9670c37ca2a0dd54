/-! the REGIONS of a head are in sight on both sides -/
section CNH
variable {S T : gSt} {N : Nat → Int64} {e r : Nat} {nm : Int64}
theorem rgV_at (h : ∀ k, k < e → S.2 72 k = N (k + 1) ∧ S.1 73 k = nI (k + 1)) (hr : 1 ≤ r) (hre : r ≤ e) (hN : N r = nm) (hu : ∀ a, 1 ≤ a → a ≤ e → N a = nm → a = r) : ∀ m, r ≤ m → m ≤ e → rgV S nm m = nI r := by
  intro m
  induction m with
  | zero => intro h1; omega
  | succ m ih =>
    intro h1 h2
    obtain ⟨a, b⟩ := h m (by omega)
    rw [rgV]
    by_cases c : m + 1 = r
    · rw [if_pos (show isRg S nm m = true from decide_eq_true (by rw [a, c]; exact hN)), b, c]
    · rw [if_neg (show ¬ isRg S nm m = true from fun w => by
        have := of_decide_eq_true w
        rw [a] at this
        exact c (hu (m + 1) (by omega) (by omega) this))]
      exact ih (by omega) (by omega)
theorem rgV_no (h : ∀ k, k < e → S.2 72 k = N (k + 1)) (hn : ∀ a, 1 ≤ a → a ≤ e → ¬ N a = nm) : ∀ m, m ≤ e → rgV S nm m = -1 := by
  intro m
  induction m with
  | zero => intro _; rfl
  | succ m ih =>
    intro h1
    rw [rgV, if_neg (show ¬ isRg S nm m = true from fun w => by
      have := of_decide_eq_true w
      rw [h m (by omega)] at this
      exact hn (m + 1) (by omega) (by omega) this)]
    exact ih (by omega)
theorem nm_head (he : e ≤ 3) (hS : rn S = e) (h : ∀ k, k < e → S.2 72 k = N (k + 1) ∧ S.1 73 k = nI (k + 1)) (hT : T.1 72 0 = 4) (hm : ∀ r, 1 ≤ r → r ≤ 3 → T.2 73 r = if r ≤ e then N r else 0) (hu : ∀ a b, 1 ≤ a → a ≤ e → 1 ≤ b → b ≤ e → N a = N b → a = b) : NmR R0 S T := by
  refine ⟨4, hT, by omega, by omega, fun nm h0 h72 => ?_⟩
  rw [hS]
  by_cases c : ∃ r, 1 ≤ r ∧ r ≤ e ∧ N r = nm
  · obtain ⟨r, r1, r2, r3⟩ := c
    right
    refine ⟨r, r, rgV_at h r1 r2 r3 (fun a a1 a2 a3 => hu a r a1 a2 r1 r2 (by rw [a3, r3])) e r2 (Nat.le_refl _), ?_, ⟨rfl, by omega⟩, by omega, by omega⟩
    have := ff_fst (p := isRk T nm) (r - 1) 1 3 (fun q q1 q2 w => by
      have w' := of_decide_eq_true w
      rw [hm q q1 (by omega), if_pos (by omega)] at w'
      have := hu q r q1 (by omega) r1 r2 (by rw [w', r3])
      omega) (show isRk T nm (1 + (r - 1)) = true from decide_eq_true (by rw [show 1 + (r - 1) = r by omega, hm r r1 (by omega), if_pos r2]; exact r3)) (by omega)
    rw [show 1 + (r - 1) = r by omega] at this
    exact this
  · left
    have hn : ∀ a, 1 ≤ a → a ≤ e → ¬ N a = nm := fun a a1 a2 a3 => c ⟨a, a1, a2, a3⟩
    refine ⟨rgV_no (fun k hk => (h k hk).1) hn e (Nat.le_refl _), ?_⟩
    refine (ff_all (p := isRk T nm) (k := 4 - 1) (i := 1) (by omega)).mpr (fun q q1 q2 w => ?_)
    have w' := of_decide_eq_true w
    rw [hm q q1 (by omega)] at w'
    by_cases ce : q ≤ e
    · rw [if_pos ce] at w'
      exact hn q q1 ce w'
    · rw [if_neg ce] at w'
      exact h0 w'.symm
end CNH
