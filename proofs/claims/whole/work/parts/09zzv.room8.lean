/-! room for types: every EXPR -/
section RM8
variable {T : gSt} {X : Lx} {k i e f lo hi : Nat} {w : Int32} {ta tb t : Tr}
theorem chk_rm (t : Tr) : RF X t := by
  induction t using Tr_ind with
  | hz t hz =>
    intro m lo hi f w T hw h hq h0 hc _
    rw [chk_nz hz]
    have c0 : cw X t = 0 := by
      unfold cw
      split
      · exact absurd rfl (hz _ _ _ _ _)
      · rfl
    obtain ⟨hw, -⟩ := hw
    unfold Wf at hw
    split at hw
    · exact absurd rfl (hz _ _ _ _ _)
    · refine ⟨fun e => ?_, fun _ => ⟨fun _ _ => ?_, ?_⟩⟩
      · rw [hw.1] at e; exact absurd e (by decide)
      · show pot T ≤ _
        omega
      · show pot T ≤ _
        omega
    · exact hw.elim
  | h k i e a b ihA ihB =>
    intro m lo hi f w T hw h hq h0 hc hg
    rw [chk_n, if_pos h0]
    obtain ⟨hw, hb⟩ := hw
    rw [Wf_n] at hw
    cases m with
    | true =>
      obtain ⟨hk, b1, c1, h1, h2, h3⟩ := WfN.lst hw
      have l3 := (Wf_le b true _ _ h3).2 rfl
      subst hk
      refine ⟨fun q => absurd q (by decide), fun _ => ?_⟩
      exact rm_ag ihA ihB ⟨h2, by omega⟩ ⟨h3, hb⟩ h hq h0 hc (hg rfl).1 (hg rfl).2
    | false =>
      refine ⟨fun _ => ?_, fun q => absurd q (by decide)⟩
      unfold WfN at hw
      rw [if_neg (by decide)] at hw
      unfold chN
      by_cases c : k = 1
      · simp only [if_pos c] at hw ⊢
        subst c
        exact rm_lf h hc
      simp only [if_neg c] at hw ⊢
      clear c
      by_cases c : k = 2
      · simp only [if_pos c] at hw ⊢
        subst c
        obtain ⟨c1, h1, h2, h3⟩ := hw
        have := (ihA false _ _ 0 0 T ⟨h2, by omega⟩ h hq h0 hc (fun e => absurd e (by decide))).1 rfl
        have c2 : cw X (tD 2 i e a b) = cw X a + 2 := rfl
        have t2 : tkd X (tD 2 i e a b) = tkd X a := rfl
        refine ⟨fun g7 g6 => ?_, by have := this.2; omega⟩
        have s := this.1 g7 g6
        rw [t2]
        exact ⟨by omega, fun q => ⟨by have := (s.2.1 q).1; omega, (s.2.1 q).2⟩, fun q => by have := s.2.2 q; omega⟩
      simp only [if_neg c] at hw ⊢
      clear c
      by_cases c : k = 3
      · simp only [if_pos c] at hw ⊢
        subst c
        exact rm_tl ihA ⟨hw.1, by omega⟩ h hq h0 hc
      simp only [if_neg c] at hw ⊢
      clear c
      by_cases c : k = 4
      · simp only [if_pos c] at hw ⊢
        subst c
        obtain ⟨h1, c1, h2, h3⟩ := hw
        have := (Wf_le b false _ _ h2).1 rfl
        exact rm_ex ihA ihB ⟨h1, by omega⟩ ⟨h2, by omega⟩ h hq h0 hc
      simp only [if_neg c] at hw ⊢
      clear c
      by_cases c : k = 5
      · simp only [if_pos c] at hw ⊢
        subst c
        have := (Wf_le b false _ _ hw.2).1 rfl
        exact rm_bn ihA ihB ⟨hw.1, by omega⟩ ⟨hw.2, by omega⟩ h hq h0 hc
      simp only [if_neg c] at hw ⊢
      clear c
      by_cases c : k = 6
      · simp only [if_pos c] at hw ⊢
        subst c
        obtain ⟨h1, h2, c1, h3, h4⟩ := hw
        have := (Wf_le a true _ _ h3).2 rfl
        exact rm_cl (i := i) (by omega) h2 ihA ⟨h3, by omega⟩ h hq h0 hc
      simp only [if_neg c] at hw ⊢
      clear c
      by_cases c : k = 7
      · simp only [if_pos c] at hw ⊢
        subst c
        obtain ⟨h1, h2, c1, h3, h4⟩ := hw
        have hl : (¬ xK X (i + 3 + e) = 49 → lenT a < 100000) ∧ (if xK X (i + 3 + e) = 49 then Wb X a false (i + 3 + e + 3) c1 else Wb X a true (i + 3 + e + 1) c1) := by
          by_cases c : xK X (i + 3 + e) = 49
          · rw [if_pos c] at h3 ⊢
            exact ⟨fun q => absurd c q, h3, by omega⟩
          · rw [if_neg c] at h3 ⊢
            have := (Wf_le a true _ _ h3).2 rfl
            exact ⟨fun _ => by omega, h3, by omega⟩
        have hw2 : if xK X (i + 3 + e) = 49 then Wb X a false (if xK X (i + 3 + e) = 49 then i + 3 + e + 3 else i + 3 + e + 1) c1 else Wb X a true (if xK X (i + 3 + e) = 49 then i + 3 + e + 3 else i + 3 + e + 1) c1 := by
          have hl2 := hl.2
          by_cases c : xK X (i + 3 + e) = 49
          · simp only [if_pos c] at hl2 ⊢
            exact hl2
          · simp only [if_neg c] at hl2 ⊢
            exact hl2
        exact rm_nw hl.1 h2 ihA hw2 h hq hc
      simp only [if_neg c] at hw ⊢
      clear c
      by_cases c : k = 8
      · simp only [if_pos c] at hw ⊢
        subst c
        obtain ⟨h1, h2⟩ := hw
        by_cases k29 : xK X i = 29
        · simp only [if_pos k29] at h2 ⊢
          obtain ⟨c, h2, h3⟩ := h2
          exact rm_cell k29 ihA ⟨h2, by omega⟩ h hq hc
        simp only [if_neg k29] at h2 ⊢
        by_cases k30 : xK X i = 30
        · simp only [if_pos k30] at h2 ⊢
          obtain ⟨c, d, h2, h3, h4⟩ := h2
          have := (Wf_le b false _ _ h3).1 rfl
          exact rm_rw k30 ihA ihB ⟨h2, by omega⟩ ⟨h3, by omega⟩ h hq hc
        simp only [if_neg k30] at h2 ⊢
        obtain ⟨c, h2, h3⟩ := h2
        by_cases k31 : xK X i = 31
        · simp only [if_pos k31]
          exact rm_nn k29 k30 ihA ⟨h2, by omega⟩ h hq h0 hc
        · simp only [if_neg k31]
          exact rm_sz k29 k30 ihA ⟨h2, by omega⟩ h hq h0 hc
      simp only [if_neg c] at hw ⊢
      clear c
      by_cases c : k = 9
      · simp only [if_pos c] at hw ⊢
        subst c
        exact rm_an ihA ⟨hw.2, by omega⟩ h hq h0 hc
      simp only [if_neg c] at hw
end RM8
