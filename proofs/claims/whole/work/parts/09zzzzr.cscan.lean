/-! the class's tokens: what its scan leaves is what the parser asks -/
section CSN
variable {nf d z : Nat} {T T' : gSt} {f : Nat → Int32} {fw fw' : Nat → Int64}
theorem ff_cg {p q : Nat → Bool} : ∀ (k i : Nat), (∀ j, i ≤ j → j < i + k → p j = q j) → ff p i k = ff q i k := by
  intro k
  induction k with
  | zero => intro i _; rfl
  | succ k ih =>
    intro i h
    rw [ff, ff, h i (Nat.le_refl _) (by omega), ih (i + 1) (fun j a b => h j (by omega) (by omega))]
theorem tokK_cg (h : ∀ j, j < 26 → fw j = fw' j) (a : Nat) : tokK f fw z a = tokK f fw' z a := by
  have e : ∀ w, ff (isW fw w) 0 26 = ff (isW fw' w) 0 26 := fun w => ff_cg 26 0 (fun j _ hj => by show decide (fw j = w) = decide (fw' j = w); rw [h j (by omega)])
  unfold tokK sK kName
  rw [e]
theorem scn_n : ∀ (m a tn : Nat) (gk gs gk' gs' : Nat → Int32) (gn gn' : Nat → Int64), (scn f fw z m a tn gk gs gn).1 = (scn f fw' z m a tn gk' gs' gn').1 := by
  intro m
  induction m with
  | zero => intro a tn gk gs gk' gs' gn gn'; rfl
  | succ m ih =>
    intro a tn gk gs gk' gs' gn gn'
    rw [scn, scn]
    by_cases c : z ≤ a
    · rw [if_pos c, if_pos c]
    · rw [if_neg c, if_neg c]
      exact ih _ _ _ _ _ _ _ _
theorem ff_nn {p : Nat → Bool} {k : Nat} (hk : k < 1000) (h : 0 ≤ ff p 0 k) : ∃ j, j < k ∧ ff p 0 k = nI j := by
  rcases ff_val (p := p) (k := k) (i := 0) with e | ⟨j, _, h2, _, e⟩
  · rw [e] at h; exact absurd h (by decide)
  · exact ⟨j, by omega, e⟩
theorem tokK_nn (a : Nat) : ∃ k, k < 1000 ∧ tokK f fw z a = nI k := by
  have lit : ∀ k : Nat, k < 1000 → ∃ k', k' < 1000 ∧ nI k = nI k' := fun k h => ⟨k, h, rfl⟩
  have nm : ∀ a n w, ∃ k, k < 1000 ∧ kName f fw a n w = nI k := by
    intro a n w
    unfold kName
    split
    · exact lit 1 (by omega)
    · split
      · exact lit 3 (by omega)
      · split
        · split
          · exact lit 2 (by omega)
          · exact lit 1 (by omega)
        · rename_i h
          rcases ff_val (p := isW fw w) (k := 26) (i := 0) with e | ⟨j, _, h2, _, e⟩
          · exact absurd e h
          · refine ⟨10 + j, by omega, ?_⟩
            rw [e, show (10 : Int32) = nI 10 from rfl]
            exact (Int32.ofNat_add _ _).symm
  unfold tokK
  split
  · unfold sK
    split
    · unfold kReg
      split
      · exact lit 4 (by omega)
      · split
        · exact lit 4 (by omega)
        · exact lit 1 (by omega)
    · split
      · split
        · exact lit 1 (by omega)
        · exact lit 5 (by omega)
      · exact nm _ _ _
  · split
    · exact lit 62 (by omega)
    · split
      · rename_i h
        obtain ⟨j, hj, e⟩ := ff_nn (by omega) h
        refine ⟨40 + j, by omega, ?_⟩
        rw [e, show (40 : Int32) = nI 40 from rfl]
        exact (Int32.ofNat_add _ _).symm
      · exact lit 1 (by omega)
theorem XO_mk (hz : z ≤ 4000) (hc : ∀ j, j < z → 0 ≤ f j ∧ f j ≤ 255) : XO (mkX f z) := by
  have tf := tk_facts (f := f) hz
  have hn : nT f z ≤ z := by have := tk_ge (f := f) hz (nT f z) (Nat.le_refl _); rw [tf.2] at this; exact this
  have hE : ∀ j, nT f z ≤ j → tkAt f z (sk f z 0) j = z := fun j hj => by
    obtain ⟨k, rfl⟩ : ∃ k, j = nT f z + k := ⟨j - nT f z, by omega⟩
    exact tk_end hz k
  refine ⟨Nat.le_trans hn hz, fun j => ⟨fun hj => ?_, ?_⟩⟩
  · have hj' : nT f z ≤ j := hj
    refine ⟨?_, ?_⟩
    · show kT f z (tkAt f z (sk f z 0) j) = 0
      rw [hE j hj']
      exact if_pos (Nat.le_refl _)
    · show tkAt f z (sk f z 0) j = tkAt f z (sk f z 0) (nT f z)
      rw [hE j hj', tf.2]
  · show kT f z (tkAt f z (sk f z 0) j) < 63
    rcases Nat.lt_or_ge j (nT f z) with h | h
    · have hq := tf.1 j h
      have a := (tk_ok (f := f) hz hq (hc _ hq)).1
      unfold okK at a
      omega
    · rw [hE j h]
      rw [show kT f z z = 0 from if_pos (Nat.le_refl _)]
      omega
/-- THE SCAN: the class's rows hold the text's tokens -/
theorem scan_tk (hz : z ≤ 4000) (hw : ∀ j, j < 26 → T.2 26 j = wt 133 j) : TkC (mkX (T.1 0) z) (scanS T z) := by
  have h := scn_tk (f := T.1 0) (fw := T.2 26) (tz := z) hz (m := z + 1) (a := 0) (tn := 0) (gk := T.1 22) (gs := T.1 23) (gn := T.2 24) (Nat.zero_le _) (by omega) rfl
  have hn : (scnT T z).1 = nT (T.1 0) z := scn_n _ _ _ _ _ _ _ _ _
  have tf := tk_facts (f := T.1 0) hz
  refine ⟨?_, ?_, fun j hj => ?_⟩
  · show nI (scnT T z).1 = nI (nT (T.1 0) z)
    rw [hn]
  · show nI z = nI (tkAt (T.1 0) z (sk (T.1 0) z 0) (nT (T.1 0) z))
    rw [tf.2]
  · have hj' : j < nT (T.1 0) z := hj
    have h' := h.2.2.1 j (by rw [Nat.zero_add, show (scn (T.1 0) (T.2 26) z (z + 1) 0 0 (T.1 22) (T.1 23) (T.2 24)).1 = (scnT T z).1 from rfl, hn]; exact hj')
    rw [Nat.zero_add] at h'
    have hq := tf.1 j hj'
    refine ⟨?_, ?_, ?_⟩
    · show upd (scnT T z).2.1 (scnT T z).1 0 j = nI (kT (T.1 0) z (tkAt (T.1 0) z (sk (T.1 0) z 0) j))
      rw [show upd (scnT T z).2.1 (scnT T z).1 0 j = (scnT T z).2.1 j by unfold upd; rw [if_neg (by rw [hn]; omega)]]
      rw [show (scnT T z).2.1 j = _ from h'.2.1, tokK_cg hw]
      unfold kT
      rw [if_neg (by omega)]
      obtain ⟨k, hk, e⟩ := tokK_nn (f := T.1 0) (fw := wt 133) (z := z) (tkAt (T.1 0) z (sk (T.1 0) z 0) j)
      rw [e, nc (by omega)]
    · show upd (scnT T z).2.2.1 (scnT T z).1 (nI z) j = nI (tkAt (T.1 0) z (sk (T.1 0) z 0) j)
      rw [show upd (scnT T z).2.2.1 (scnT T z).1 (nI z) j = (scnT T z).2.2.1 j by unfold upd; rw [if_neg (by rw [hn]; omega)]]
      exact h'.2.2.1
    · exact h'.2.2.2
end CSN
