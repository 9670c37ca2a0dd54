/-! places of the code: all of it */
-/
section SUV
variable {M0 T0 Sf : gSt} {X : Lx} {it n1 : Nat}
theorem gd_all (cx : CxP M0 T0 Sf) (hf0 : Sf.1 7 0 = 0) (hit : it < inn Sf) (h12 : Sf.1 12 it = 2) (t : Tr) : GdQ M0 T0 Sf X it n1 t := by
  induction t using Tr_ind with
  | hz t hz =>
    intro mo a b v g v' g' dd ys no j S n n' m m' k hs hw hg gk hR hT pl kv cont
    rw [CdS_z hz] at hR
    rw [KdS_z hz] at hT
    rw [stS_z hz] at cont
    subst hR
    subst hT
    have m1 : mo = 1 := by
      unfold Ws at hw
      split at hw
      · exact absurd rfl (hz _ _ _ _ _)
      · exact hw.1
      · exact hw.elim
    exact ⟨fun _ => cont pl.2.2.2.1, fun w => by omega⟩
  | h k i e ta tb ihA ihB =>
    intro mo a b v g v' g' dd ys no j S n n' m m' K hs hw hg gk hR hT pl kv cont
    by_cases m2 : mo = 2
    · subst m2
      have kE : k = 31 := by
        have := hw
        rw [Ws_n] at this
        unfold WsN at this
        rw [if_pos rfl] at this
        exact this.1
      subst kE
      exact ⟨fun _ => gd_31 cx hf0 ihA hw hg gk hR hT pl kv cont, fun w => by omega⟩
    by_cases m1 : mo = 1
    · subst m1
      have kE : k = 11 := by
        have := hw
        rw [Ws_n] at this
        unfold WsN at this
        rw [if_neg (by omega), if_pos rfl] at this
        exact this.1
      subst kE
      exact ⟨fun _ => gd_11 cx hf0 ihA ihB hw hg gk hR hT pl kv cont, fun w => by omega⟩
    by_cases m3 : mo = 3
    · subst m3
      have kE : k = 12 := by
        have := hw
        rw [Ws_n] at this
        unfold WsN at this
        rw [if_neg (by omega), if_neg (by omega), if_pos rfl] at this
        exact this.1
      subst kE
      exact ⟨fun w => absurd rfl w, fun _ => gd_12 cx hf0 ihA ihB hw hg gk hR hT pl kv cont⟩
    have hw0 : Ws X (tD k i e ta tb) 0 a b v g v' g' := by
      rw [Ws_n] at hw ⊢
      unfold WsN at hw ⊢
      rw [if_neg m2, if_neg m1, if_neg m3] at hw
      rw [if_neg (by omega), if_neg (by omega), if_neg (by omega)]
      exact hw
    have hg0 : SG X (tD k i e ta tb) dd 0 := by
      rw [SG_n] at hg ⊢
      unfold sgN at hg ⊢
      rw [if_neg m3, if_neg m2, if_neg m1] at hg
      rw [if_neg (by omega), if_neg (by omega), if_neg (by omega)]
      exact hg
    refine ⟨fun _ => ?_, fun w => absurd w m3⟩
    obtain ⟨hC, hF, hC', hF', h7', h0, ⟨v0, g0, n0, hS⟩, _⟩ := gk_ck cx.2.1 hf0 gk
    have gk0 := gk
    rw [Gk_n] at gk
    obtain ⟨_, _, _, gk⟩ := gk
    unfold GkN at gk
    have hwX := hw0
    rw [Ws_n] at hwX
    unfold WsN at hwX
    rw [if_neg (by omega), if_neg (by omega), if_neg (by omega)] at hwX
    by_cases k20 : k = 20
    · subst k20
      rw [if_pos rfl] at hwX
      rw [if_pos (by decide)] at gk
      obtain ⟨_, e1, v20, _, _, ht, _⟩ := hwX
      obtain ⟨_, _, hx⟩ : xK X (i + 1) = 2 ∧ tyP X 6 (i + 3) ∧ (isZ ta = true ∨ (XG X ta (19 - dd) 1 ∧ dd ≤ 19)) := hg0
      subst e1
      exact gd_20 (p := xP X i) cx pl hC hF ht v20 hC' hF' gk hx (And.right (a := n < n') hR) (And.right (a := m < m') hT) h7' cont
    rw [if_neg k20] at hwX
    by_cases k21 : k = 21
    · subst k21
      exact gd_21 cx hf0 ihB hw0 hg0 gk0 hR hT pl kv cont
    rw [if_neg k21] at hwX
    by_cases k22 : k = 22
    · subst k22
      exact gd_22 cx hf0 ihB hw0 hg0 gk0 hR hT pl kv cont
    rw [if_neg k22] at hwX
    by_cases k23 : k = 23
    · subst k23
      rw [if_neg (by decide), if_neg (by decide), if_neg (by decide), if_neg (by decide), if_pos (by decide)] at gk
      have hx : isZ ta = true ∨ (XG X ta (19 - dd) 1 ∧ dd ≤ 19) := hg0
      exact gd_23 (p := xP X i) cx pl hC hF gk hx hit h12 (And.right (a := n < n') hR) (And.right (a := m < m') hT) h7'
    rw [if_neg k23] at hwX
    by_cases k24 : k = 24
    · subst k24
      rw [if_neg (by decide), if_neg (by decide), if_neg (by decide), if_neg (by decide), if_neg (by decide), if_pos (by decide)] at gk
      have hx : (XG X ta (19 - dd) 1 ∧ dd ≤ 19) := hg0
      exact gd_24 (p := xP X i) cx pl hC hF gk hx (And.right (a := n < n') hR) (And.right (a := m < m') hT) h7' cont
    by_cases k25 : k = 25
    · subst k25
      rw [if_neg (by decide), if_neg (by decide), if_neg (by decide), if_neg (by decide), if_neg (by decide), if_pos (by decide)] at gk
      have hx : (XG X ta (19 - dd) 1 ∧ dd ≤ 19) := hg0
      exact gd_25 (p := xP X i) cx pl hC hF gk hx (And.right (a := n < n') hR) (And.right (a := m < m') hT) h7'
    rw [if_neg (by omega)] at hwX
    by_cases k30 : k = 30
    · subst k30
      rw [if_neg (by decide), if_neg (by decide), if_neg (by decide), if_neg (by decide), if_neg (by decide), if_pos (by decide)] at gk
      have hx : (XG X ta (19 - dd) 1 ∧ dd ≤ 19) := hg0
      exact gd_30 (p := xP X i) cx pl hC hF gk hx (And.right (a := n < n') hR) (And.right (a := m < m') hT) h7' cont
    rw [if_neg k30] at hwX
    by_cases k29 : k = 29
    · subst k29
      rw [if_neg (by decide), if_neg (by decide), if_neg (by decide), if_neg (by decide), if_neg (by decide), if_neg (by decide), if_pos (by decide)] at gk
      obtain ⟨ge, gk⟩ := gk
      obtain ⟨hx2, hx⟩ : (XG X ta (19 - dd) 1 ∧ dd ≤ 19) ∧ (XG X tb (19 - dd) 1 ∧ dd ≤ 19) := hg0
      obtain ⟨l0, r1, n2, r2, r3, r4⟩ : n < n' ∧ rwC4 M0 n = (0, nI (xP X i), 0, 0) ∧ ∃ m, ExC M0 (chk X tb 0 0 S).2.2.1 (n + 1) m ∧ m < n' ∧ (if tkd X ta = 4 then rwC4 M0 m = (22, tf (chk X tb 0 0 S).2.2.2 79 (fd (isVa (chk X tb 0 0 S).2.2.2 (xN X (lfI ta))) (vn (chk X tb 0 0 S).2.2.2)), 0, 0) ∧ n' = m + 1 else CpP M0 (chk X ta 0 0 (chk X tb 0 0 S).2.2.2).2.2.1 m n') := hR
      obtain ⟨l1, t1, m2, t2, t3, t4⟩ : m < m' ∧ cw3 T0 m = (1, nI (xP X i), 0) ∧ ∃ n, KxC (eN Sf it) Sf T0 S (chk X tb 0 0 S).2.2.1 (m + 1) n ∧ n < m' ∧ (if tkd X ta = 4 then KwO (eN Sf it) Sf T0 S 4 (slF (chk X tb 0 0 S).2.2.2 (tf (chk X tb 0 0 S).2.2.2 79 (fd (isVa (chk X tb 0 0 S).2.2.2 (xN X (lfI ta))) (vn (chk X tb 0 0 S).2.2.2)))) (tf (chk X tb 0 0 S).2.2.2 80 (fd (isVa (chk X tb 0 0 S).2.2.2 (xN X (lfI ta))) (vn (chk X tb 0 0 S).2.2.2))) n ∧ m' = n + 1 else KpP (eN Sf it) Sf T0 (chk X tb 0 0 S).2.2.2 (chk X ta 0 0 (chk X tb 0 0 S).2.2.2).2.2.1 n m') := hT
      by_cases h4 : tkd X ta = 4
      · rw [if_pos h4] at r4 t4
        exact gd_29a (p := xP X i) cx pl hC hF hC' hF' ge hx h4 kv ⟨r1, n2, r2, r4⟩ ⟨t1, m2, t2, t4⟩ h7' cont
      · rw [if_neg h4] at r4 t4
        obtain ⟨h5, ge2⟩ := gk.resolve_left h4
        exact gd_29b (p := xP X i) cx pl hC hF ge hF' ge2 hx hx2 h4 h5 ⟨r1, n2, r2, r3, r4⟩ ⟨t1, m2, t2, t3, t4⟩ h7' cont
    rw [if_neg k29] at hwX
    by_cases k26 : k = 26
    · subst k26
      exact gd_26 cx hf0 ihA hw0 hg0 gk0 hR hT pl kv cont
    rw [if_neg k26] at hwX
    by_cases k27 : k = 27
    · subst k27
      exact gd_27 (p := xP X i) cx pl hC hF hC' hF' hS h0 (And.right (a := n < n') hR) (And.right (a := m < m') hT) h7' cont
    rw [if_neg k27] at hwX
    by_cases k28 : k = 28
    · subst k28
      exact gd_28 cx hf0 ihA ihB hw0 hg0 gk0 hR hT pl kv cont
    rw [if_neg k28] at hwX
    exact hwX.elim
end SUV
