/-! NAME == null, on the class's side -/
section SAL
variable {S S' T T' : gSt} {X : Lx} {nf d i k n m e c a b lo hi z : Nat} {ta tb tr : Tr}
theorem Rc_nn (tr : Tr) : ∀ (lo hi z : Nat), 1 ≤ lo → RcG X T tr 1 lo hi z → 2 ≤ opN tr → ∃ w u, 1 ≤ w ∧ w < hi ∧ T.1 13 lo = nI w ∧ 1 ≤ u ∧ u < hi ∧ T.1 13 w = nI u := by
  induction tr using Tr_ind with
  | hz t hz =>
    intro lo hi z hl h ho
    unfold opN at ho
    split at ho
    · exact absurd rfl (hz _ _ _ _ _)
    · omega
  | h k i e ta tb ihA ihB =>
    intro lo hi z hl h ho
    rw [opN_n] at ho
    by_cases c5 : k = 5
    · rw [if_pos c5] at ho
      rw [RcG_n] at h
      unfold RcN at h
      rw [if_neg (by omega), if_pos rfl, if_pos c5] at h
      obtain ⟨h1, h2, ⟨y', h3, h4⟩, _⟩ := h
      by_cases c2 : 2 ≤ opN ta
      · obtain ⟨w, u, a1, a2, a3, a4, a5, a6⟩ := ihA lo z y' hl h3 c2
        exact ⟨w, u, a1, by omega, a3, a4, by omega, a6⟩
      · have o1 : opN ta = 1 := by omega
        -- its second TERM is its last
        clear ihA ihB
        induction ta using Tr_ind with
        | hz t hz =>
          unfold opN at o1
          split at o1
          · exact absurd rfl (hz _ _ _ _ _)
          · omega
        | h k2 i2 e2 ua ub _ _ =>
          rw [opN_n] at o1
          by_cases c5' : k2 = 5
          · rw [if_pos c5'] at o1
            rw [RcG_n] at h3
            unfold RcN at h3
            rw [if_neg (by omega), if_pos rfl, if_pos c5'] at h3
            obtain ⟨g1, g2, ⟨y2, g3, g4⟩, _⟩ := h3
            rcases (Rc_13 ua lo y' y2 hl g3).1 with ⟨_, w⟩ | ⟨w, _⟩
            · subst w
              exact ⟨y', z, by omega, by omega, g4, by omega, h2, h4⟩
            · omega
          · rw [if_neg c5'] at o1
            omega
    · rw [if_neg c5] at ho
      omega
theorem XG_01 (tr : Tr) (h : XG X tr m 0) : XG X tr m 1 := by
  induction tr using Tr_ind with
  | hz t hz =>
    unfold XG at h ⊢
    split at h
    · exact absurd rfl (hz _ _ _ _ _)
    · exact absurd h (by decide)
    · exact h.elim
  | h k i e ta tb _ _ =>
    rw [XG_n] at h ⊢
    unfold xgN at h ⊢
    rw [if_neg (by omega)] at h ⊢
    by_cases c5 : k = 5
    · rw [if_neg (by omega), if_neg (by omega), if_neg (by omega), if_neg (by omega), if_pos c5] at h
      exact absurd h.1 (by decide)
    · simp only [if_neg c5] at h ⊢
      exact h
theorem vn_br (tr : Tr) : vnI X T n tr = vnI X T n (brT tr) := by
  induction tr using Tr_ind with
  | hz t hz =>
    unfold brT
    split
    · exact absurd rfl (hz _ _ _ _ _)
    · rfl
  | h k i e ta tb ihA ihB =>
    rw [brT_n, vnI_n]
    by_cases c : k = 2
    · rw [if_pos c, if_pos c]
      exact ihA
    · rw [if_neg c, if_neg c, vnI_n, if_neg c]
/-- a TERM is a node -/
theorem Rc_nd (h : RcG X T tr 0 lo hi z) : ∃ k i e ua ub, tr = tD k i e ua ub := by
  induction tr using Tr_ind with
  | hz t hz =>
    unfold RcG at h
    split at h
    · exact absurd rfl (hz _ _ _ _ _)
    · exact absurd h.1 (by decide)
    · exact h.elim
  | h k i e ta tb _ _ => exact ⟨k, i, e, ta, tb, rfl⟩
/-- varAgainstNull -/
theorem c_anull (hX : XO X) (hnf : 16385 ≤ nf) (hT : TkC X T) (h0 : T.1 11 0 = 0) (h68 : T.1 68 0 = nI n) (hn : n ≤ 20) (h : cRX T (RcG X T tr) lo hi) (hg : XG X tr m 1) (hm : m ≤ 20) (hl : 1 ≤ lo) (hh : hi ≤ 4008) (hw : Wf X tr false a b) (hd : 6 ≤ d) : PP nf d 176 T [nI lo] [] = some (vnI X T n tr, 0, T) := by
  obtain ⟨d, rfl⟩ : ∃ g, d = g + 1 := ⟨d - 1, by omega⟩
  obtain ⟨lo', l1, l2, l3, l4⟩ := c_bare (nf := nf) (d := d) hX hnf h hl hh hg hm (by omega)
  obtain ⟨b1, ⟨a', b', b2, b3⟩, b4, b5, b6, _, _, k', i', e', ta', tb', b7, b8⟩ := br_all tr m 1 _ _ (by omega) hg hw
  have zl : inb (nI lo') 4008 := nin (by omega) (by omega)
  rw [e_Exprs_varAgainstNull]
  unfold rb_Exprs_varAgainstNull
  rw [l3, bis, gd, if_pos zl, nc (by omega), vK, vn_br tr]
  rw [b7] at l4 b1 b2 ⊢
  rw [vnI_n, if_neg b8]
  have n0 : ∀ w : Nat, 1 ≤ w → w < 4008 → ¬ nI w = (0 : Int32) := fun w w1 w2 v => by
    have := nI_inj (b := 0) (by omega) (by omega) v
    omega
  rcases l4.br hX (by omega) hh with ⟨n5, w0, _⟩ | ⟨k5, w, w1, w2, w3⟩
  · rw [w0, if_pos rfl, if_neg (fun v => n5 v.1)]
  · subst k5
    rw [w3, if_neg (n0 w w1 (by omega)), gd, if_pos (nin (by omega) (by omega)), nc (by omega)]
    obtain ⟨y, y1, y2⟩ := l4
    have y1' := y1
    rw [RcG_n] at y1
    unfold RcN at y1
    rw [if_neg (by omega), if_pos rfl, if_pos rfl] at y1
    obtain ⟨h1, h2, ⟨y', h3, h4⟩, h5, z0, h6, h7⟩ := y1
    rw [XG_n] at b1
    unfold xgN at b1
    rw [if_neg (by omega), if_neg (by omega), if_neg (by omega), if_neg (by omega), if_neg (by omega), if_pos rfl] at b1
    obtain ⟨_, g1, g2, g3⟩ := b1
    rw [Wf_n] at b2
    unfold WfN at b2
    rw [if_neg (by decide), if_neg (by omega), if_neg (by omega), if_neg (by omega), if_neg (by omega), if_pos rfl] at b2
    obtain ⟨f1, f2⟩ := b2
    rcases (Rc_13 ta' lo' y y' (by omega) h3).1 with ⟨o0, q0⟩ | ⟨o1, _⟩
    · -- two TERMS
      rw [q0] at h3 h4
      have ew : w = y := nI_inj (by omega) (by omega) (by rw [← w3, ← h4])
      subst ew
      rw [y2, if_pos rfl, gd, if_pos (nin (by omega) (by omega)), h5]
      have q62 : (nI e' = (62 : Int32)) = (e' = 62) := ci_eq (j := 62) (by omega) (by omega)
      by_cases c62 : e' = 62
      · rw [if_pos (q62.mpr c62)]
        obtain ⟨k2, i2, e2, ua, ub, rfl⟩ := Rc_nd h6
        obtain ⟨v, v1, v2, v3, v4, v5⟩ := c_bterm (nf := nf) (d := d) hX hnf h0 h6 h7 (XG_01 _ g2) hm (by omega) hh f2 (by omega)
        have zv : inb (nI v) 4008 := nin (by omega) (by omega)
        rw [v1, bis, gd, if_pos zv, nc (by omega)]
        have no : ¬ (tkd X (tD k2 i2 e2 ua ub) = 1) → (if (5 : Nat) = 5 ∧ e' = 62 ∧ tkd X ta' = 4 ∧ tkd X (tD k2 i2 e2 ua ub) = 1 then ff (isVr T (xN X (lfI ta'))) 0 n else -1) = -1 := fun q => by rw [if_neg (fun u => q u.2.2.2)]
        by_cases u1 : T.1 11 v = 27
        · rw [if_pos u1, gd, if_pos zv]
          by_cases u2 : T.1 18 v = 0
          · have t1 := v4.mpr ⟨u1, u2⟩
            rw [if_pos u2]
            -- the first TERM
            have hT1 : ∃ z1, RcG X T ta' 0 lo' w z1 ∧ fnT T lo' z1 := by
              have h3' := h3
              induction ta' using Tr_ind with
              | hz t hz =>
                unfold RcG at h3
                split at h3
                · exact absurd rfl (hz _ _ _ _ _)
                · exact absurd h3.1 (by decide)
                · exact h3.elim
              | h k3 i3 e3 va vb _ _ =>
                rw [RcG_n] at h3
                unfold RcN at h3
                rw [opN_n] at o0
                by_cases c5 : k3 = 5
                · rw [if_pos c5] at o0
                  omega
                · rw [if_neg (by omega), if_pos rfl, if_neg c5] at h3
                  obtain ⟨_, z1, q1, q2⟩ := h3
                  refine ⟨z1, ?_, q2⟩
                  rw [RcG_n]
                  unfold RcN
                  rw [if_neg (by omega), if_neg (by omega)]
                  exact q1
            obtain ⟨z1, q1, q2⟩ := hT1
            obtain ⟨k3, i3, e3, va, vb, rfl⟩ := Rc_nd q1
            rw [c_vterm (nf := nf) (d := d) hX hnf hT h0 h68 hn q1 q2 g1 hm (by omega) (by omega) f1 (by omega), bis]
            unfold vaI
            by_cases c4 : tkd X (tD k3 i3 e3 va vb) = 4
            · rw [if_pos c4, if_pos ⟨rfl, c62, c4, t1⟩]
            · rw [if_neg c4, if_neg (fun u => c4 u.2.2.1)]
          · rw [if_neg u2, no (fun q => u2 (v4.mp q).2)]
        · rw [if_neg u1, no (fun q => u1 (v4.mp q).1)]
      · rw [if_neg (fun q => c62 (q62.mp q)), if_neg (fun q => c62 q.2.1)]
    · obtain ⟨w', u, a1, a2, a3, a4, a5, a6⟩ := Rc_nn _ lo' hi y (by omega) y1' (by rw [opN_n, if_pos rfl]; omega)
      have ew : w = w' := nI_inj (by omega) (by omega) (by rw [← w3, ← a3])
      subst ew
      rw [a6, if_neg (n0 u a4 (by omega))]
      have t13 : ¬ tkd X ta' = 4 := by
        induction ta' using Tr_ind with
        | hz t hz =>
          unfold opN at o1
          split at o1
          · exact absurd rfl (hz _ _ _ _ _)
          · omega
        | h k3 i3 e3 va vb _ _ =>
          rw [opN_n] at o1
          by_cases c5 : k3 = 5
          · subst c5
            rw [tkd_5]
            omega
          · rw [if_neg c5] at o1
            omega
      rw [if_neg (fun q => t13 q.2.2.1)]
end SAL
