/-! LX for any text -/
section LXY
variable {f : Nat → Int32} {z q : Nat}
theorem tkAt_s : ∀ (i q : Nat), tkAt f z q (i + 1) = nq f z (tkAt f z q i) := by
  intro i
  induction i with
  | zero => intro q; rfl
  | succ i ih => intro q; rw [tkAt, ih, ← tkAt]
theorem aft_end : tAft f z z = z := if_pos (Nat.le_refl _)
theorem nq_end : nq f z z = z := by
  unfold nq
  rw [aft_end, Nat.sub_self]
  rfl
theorem aft_in (hz : z ≤ 4000) (hq : q < z) : q < tAft f z q ∧ tAft f z q ≤ z := by
  unfold tAft
  rw [if_neg (by omega)]
  by_cases h : cL (f q) ∨ f q = 39
  · rw [if_pos h]
    by_cases h39 : f q = 39
    · have hF : tFR f q = q + 1 := if_pos h39
      have := rl_le (f := f) (a := q + 1) (m := z - (q + 1))
      unfold tN
      rw [hF]
      omega
    · have hF : tFR f q = q := if_neg h39
      have hc : cL (f q) := h.resolve_right h39
      have := rl_le (f := f) (a := q + 1) (m := z - q - 1)
      unfold tN
      rw [hF, rl_y hc (by omega)]
      omega
  · rw [if_neg h]
    by_cases h1 : q + 1 < z
    · rw [if_pos ((nI_ltI (by omega) (by omega)).mpr h1)]
      split <;> omega
    · rw [if_neg (fun h => h1 ((nI_ltI (by omega) (by omega)).mp h)), if_neg (fun h => absurd h.2 (by decide))]
      omega
theorem tk_facts (hz : z ≤ 4000) : (∀ i, i < nT f z → tkAt f z (sk f z 0) i < z) ∧ tkAt f z (sk f z 0) (nT f z) = z := by
  have h := scn_tk (f := f) (fw := wt 133) (tz := z) hz (m := z + 1) (a := 0) (tn := 0) (gk := fun _ => 0) (gs := fun _ => 0) (gn := fun _ => 0) (Nat.zero_le _) (by omega) rfl
  refine ⟨fun i hi => (h.2.2.1 i (by rw [Nat.zero_add]; exact hi)).1, ?_⟩
  have := h.2.2.2
  rw [Nat.sub_zero] at this
  exact this
theorem tk_end (hz : z ≤ 4000) : ∀ k, tkAt f z (sk f z 0) (nT f z + k) = z := by
  intro k
  induction k with
  | zero => exact (tk_facts hz).2
  | succ k ih => rw [← Nat.add_assoc, tkAt_s, ih]; exact nq_end
theorem tk_ge (hz : z ≤ 4000) : ∀ i, i ≤ nT f z → i ≤ tkAt f z (sk f z 0) i := by
  intro i
  induction i with
  | zero => intro _; exact Nat.zero_le _
  | succ i ih =>
    intro h
    have h1 := ih (by omega)
    have h2 := aft_in (f := f) hz ((tk_facts (f := f) hz).1 i h)
    rw [tkAt_s]
    unfold nq
    omega
/-- the tokens of a text are as the reference's rows ask -/
theorem LX_mk (hz : z ≤ 4000) (hc : ∀ j, j < z → 0 ≤ f j ∧ f j ≤ 255) : LX (mkX f z) := by
  have tf := tk_facts (f := f) hz
  have hn : nT f z ≤ z := by have := tk_ge (f := f) hz (nT f z) (Nat.le_refl _); rw [tf.2] at this; exact this
  refine ⟨Nat.le_trans hn hz, hz, ?_, ?_, ?_, ?_, ?_⟩
  · intro i hi
    have hi' : nT f z ≤ i := hi
    show kT f z (tkAt f z (sk f z 0) i) = 0
    obtain ⟨k, rfl⟩ : ∃ k, i = nT f z + k := ⟨i - nT f z, by omega⟩
    rw [tk_end hz]
    exact if_pos (Nat.le_refl _)
  · intro i hi
    have hq := tf.1 i hi
    exact (tk_ok hz hq (hc _ hq)).2.1
  · intro i hi
    have hi' : i ≤ nT f z := hi
    rcases Nat.lt_or_ge i (nT f z) with h | h
    · have hq := tf.1 i h
      have a := aft_in (f := f) hz hq
      obtain ⟨b1, b2, b3, b4, b5, b6, b7⟩ := tk_ok hz hq (hc _ hq)
      exact ⟨b1, Nat.le_of_lt a.1, a.2, b3, rfl, b4, b5, b6, b7⟩
    · have e : i = nT f z := by omega
      have eK : xK (mkX f z) i = 0 := by
        show kT f z (tkAt f z (sk f z 0) i) = 0
        rw [e, tf.2]
        exact if_pos (Nat.le_refl _)
      have eP : xP (mkX f z) i = z := by
        show tkAt f z (sk f z 0) i = z
        rw [e, tf.2]
      have eA : xA (mkX f z) i = z := by
        show tAft f z (tkAt f z (sk f z 0) i) = z
        rw [e, tf.2, aft_end]
      have ez : xz (mkX f z) = z := rfl
      have ef : xf (mkX f z) = f := rfl
      unfold tokOk
      rw [eK, eP, eA, ez, ef]
      refine ⟨Or.inl (by omega), Nat.le_refl _, Nat.le_refl _, if_pos (Nat.le_refl _), aft_end, fun o h => by omega, fun o h => by omega, fun o h => by omega, fun j h1 h2 => nonW (by omega) (by omega) h1 h2⟩
  · intro i hi
    exact tkAt_s i _
  · show sk f z 0 = bs f 0 z
    unfold sk
    rw [Nat.zero_add, Nat.sub_zero]
/-- the reference's parse of a text, whole -/
theorem x_text {nf d : Nat} {T : gSt} (hz : z ≤ 4000) (hc : ∀ j, j < z → 0 ≤ T.1 0 j ∧ T.1 0 j ≤ 255) (hnf : 5000 ≤ nf) (hd : 683 ≤ d) (h1 : T.1 1 0 = nI z) (h7 : T.1 7 0 = 0) : wp (RR nf d 23 T [] []) (fun _ _ T' => PR (mkX (T.1 0) z) T (pIts (kT (T.1 0) z ∘ tkAt (T.1 0) z (sk (T.1 0) z 0)) 24 0) T') := by
  obtain ⟨d', rfl⟩ : ∃ k, d = k + 34 := ⟨d - 34, by omega⟩
  exact x_prog (X := mkX (T.1 0) z) (LX_mk hz hc) hnf (by omega) rfl h1 h7
end LXY
