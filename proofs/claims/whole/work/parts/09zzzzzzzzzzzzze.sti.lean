/-! both machines: up to the next STEP */
-/
section STI
variable {M0 T0 Sf S Sh : gSt} {G G' : GH} {D D' : Nat → (Nat → AV) × Nat} {nf d d' nb nb' mk mk' na na' ng ng' e bs ph bt rb tb ie en hb k q u s i j c t h P W Dp n m it n1 : Nat} {rg rg' : Nat → Nat} {ρ : Nat → Nat} {va : Nat → AV} {M M' T T' : gSt} {v : AV} {x a b cc ee op y z w : Int32} {st s0 st' : List Int32} {ov o0 ov' : List AV} {hs : List HD} {F : FRM} {Fr : Nat → FRM} {f : Nat → Int32} {jj : T5} {r1 : Int32} {l1 : Int64} {tg : List Nat}
variable {K jR jC E n27 : Nat} {F2 F3 : FRM} {hh : HD} {tl : List HD}
theorem go_R : ∀ (j k : Nat) (M M' : gSt), MvR nf d j M M' → (¬ M'.1 100 0 = 1 ∨ ∃ n, M'.1 102 0 = nI n ∧ n < 12000 ∧ M'.1 96 n = 0) → j < k → rl_Model_goOn_0 (RR nf d) nf k M = some (0, 0, M') := by
  intro j
  induction j with
  | zero =>
    intro k M M' h he hk
    cases h
    obtain ⟨k, rfl⟩ : ∃ k', k = k' + 1 := ⟨k - 1, by omega⟩
    rw [rl_Model_goOn_0]
    by_cases c : M.1 100 0 = 1
    · rw [if_pos c]
      rcases he with w | ⟨n, h1, h2, h3⟩
      · exact absurd c w
      · rw [h1, nc (by omega)]
        unfold gd
        rw [if_pos (nin (by omega) (by omega)), if_pos h3]
    · rw [if_neg c]
  | succ j ih =>
    intro k M M' h he hk
    obtain ⟨M1, z, ⟨n, r, l, h1, h2, h3, h4⟩, h5⟩ := h
    obtain ⟨k, rfl⟩ : ∃ k', k = k' + 1 := ⟨k - 1, by omega⟩
    have zn : inb (nI n) 12000 := nin (by omega) (by omega)
    rw [rl_Model_goOn_0, if_pos z, h1, nc (by omega)]
    unfold gd vK stK
    dsimp only
    rw [if_pos zn, if_neg h3, if_pos zn, if_pos zn, if_pos zn, if_pos zn, nI_1, nc (by omega), sI_ne (by omega), sI_ne (by omega), sI_ne (by omega), sI_ne (by omega), h4, bis]
    exact ih k M1 M' h5 he (by omega)
theorem go_C : ∀ (j k i : Nat) (T T' : gSt), MvC nf d j T T' → (¬ T'.1 106 0 = 1 ∨ ∃ m c, T'.1 105 0 = nI m ∧ T'.1 51 0 = nI c ∧ c ≤ 6032 ∧ m < c ∧ T'.1 48 m = 1) → j < k → i + j < 1000000 → 2 ≤ d → rl_Machine_goOn_2 (PP nf d) nf k T (nI i) = some (0, 0, T') := by
  intro j
  induction j with
  | zero =>
    intro k i T T' h he hk hi hd
    cases h
    obtain ⟨k, rfl⟩ : ∃ k', k = k' + 1 := ⟨k - 1, by omega⟩
    rw [rl_Machine_goOn_2, if_neg (show ¬ (1000000 : Int32) ≤ nI i from fun w => by
      have := (nI_leI (a := 1000000) (b := i) (by omega) (by omega)).mp w
      omega)]
    by_cases c : T.1 106 0 = 1
    · rw [if_pos c]
      rcases he with w | ⟨m, c, h1, h2, h3, h4, h5⟩
      · exact absurd c w
      · rw [h1, (c_row h2 h3 h4 hd).1, bis, if_pos h5]
    · rw [if_neg c]
  | succ j ih =>
    intro k i T T' h he hk hi hd
    obtain ⟨T1, z, ⟨m, c, r, l, h1, h2, h3, h4, h5, h6⟩, h7⟩ := h
    obtain ⟨k, rfl⟩ : ∃ k', k = k' + 1 := ⟨k - 1, by omega⟩
    have rw1 := c_row (nf := nf) h2 h3 h4 hd
    have nx := ih k (i + 1) T1 T' h7 he (by omega) (by omega) hd
    rw [← nI_1] at nx
    rw [rl_Machine_goOn_2, if_neg (show ¬ (1000000 : Int32) ≤ nI i from fun w => by
      have := (nI_leI (a := 1000000) (b := i) (by omega) (by omega)).mp w
      omega), if_pos z, h1, rw1.1, bis, if_neg h5, h1, rw1.1, bis, h1, rw1.2.1, bis, h1, rw1.2.2, bis, h1, nI_1]
    unfold stK vK
    dsimp only
    unfold dC at h6
    by_cases c1 : (9 : Int32) < T.1 48 m
    · rw [if_pos c1] at h6 ⊢
      by_cases c2 : (16 : Int32) < T.1 48 m
      · rw [if_pos c2] at h6 ⊢
        by_cases c3 : (26 : Int32) < T.1 48 m
        · rw [if_pos c3] at h6 ⊢
          by_cases c4 : (32 : Int32) < T.1 48 m
          · rw [if_pos c4] at h6 ⊢
            by_cases c5 : (42 : Int32) < T.1 48 m
            · rw [if_pos c5] at h6 ⊢
              rw [h6, bis]
              exact nx
            · rw [if_neg c5] at h6 ⊢
              rw [h6, bis]
              exact nx
          · rw [if_neg c4] at h6 ⊢
            rw [h6, bis]
            exact nx
        · rw [if_neg c3] at h6 ⊢
          rw [h6, bis]
          exact nx
      · rw [if_neg c2] at h6 ⊢
        rw [h6, bis]
        exact nx
    · rw [if_neg c1] at h6 ⊢
      rw [h6, bis]
      exact nx
theorem SiG.dn (h : SiG M0 T0 Sf n1 (K + 1) G D nb mk rg na ng P W Fr Dp M T) : SiG M0 T0 Sf n1 K G D nb mk rg na ng P W Fr Dp M T := by
  obtain ⟨⟨h1, h2, h3, h4⟩, h5⟩ := h
  exact ⟨⟨h1, h2, fun e he => HsG.dn _ (h3 e he), fun e he => (h4 e he).dn⟩, Gdk.dn _ _ _ _ _ _ h5⟩
theorem SiG.le (h : SiG M0 T0 Sf n1 (K + k) G D nb mk rg na ng P W Fr Dp M T) : SiG M0 T0 Sf n1 K G D nb mk rg na ng P W Fr Dp M T := by
  induction k with
  | zero => exact h
  | succ k ih => exact ih h.dn
/-- up to the next STEP, or to the end */
-/
theorem go_both (cx : CxP M0 T0 Sf) (hfw : FwQ Sf T0) (hpg : PgG M0 T0 Sf n1) (hnU : nU M0 ≤ 4000) (h27 : T0.1 27 0 = nI n27) (hn27 : n27 ≤ 24) (hin : inn Sf ≤ n27) (h51 : T0.1 51 0 = nI n1) (h6 : n1 ≤ 6032) (hnf : 16385 ≤ nf) (hd : 20 ≤ d) (hd' : 20 ≤ d') : ∀ (N : Nat) (K : Nat) (G : GH) (D : Nat → (Nat → AV) × Nat) (nb mk : Nat) (rg : Nat → Nat) (na ng : Nat) (Fr : Nat → FRM) (Dp : Nat) (M T : gSt), SiG M0 T0 Sf n1 (K + N) G D nb mk rg na ng P W Fr Dp M T → 2 * nuR M0 Fr Dp + 2 ≤ N → mk + prN M + nuC M0 Fr Dp < 2 ^ 31 → ∃ jR jC M' T', MvR nf d jR M M' ∧ MvC nf d' jC T T' ∧ jR ≤ 2 * nuR M0 Fr Dp ∧ jC ≤ 2 * nuC M0 Fr Dp ∧ (EnO M0 T0 P W M' T' ∨ ∃ G' D' nb' mk' rg' na' ng' Fr' Dp', SiG M0 T0 Sf n1 K G' D' nb' mk' rg' na' ng' P W Fr' Dp' M' T' ∧ (rwC4 M0 (fn (Fr' Dp'))).1 = 0 ∧ mk' + prN M' + nuC M0 Fr' Dp' ≤ mk + prN M + nuC M0 Fr Dp) := by
  intro N
  induction N using Nat.strongRecOn with
  | ind N ih =>
    intro K G D nb mk rg na ng Fr Dp M T h hN hb
    by_cases hst : (rwC4 M0 (fn (Fr Dp))).1 = 0
    · exact ⟨0, 0, M, T, rfl, rfl, by omega, by omega, Or.inr ⟨G, D, nb, mk, rg, na, ng, Fr, Dp, h.le, hst, Nat.le_refl _⟩⟩
    · cases N with
      | zero => exact absurd hN (by omega)
      | succ N =>
        rcases so_step (K := K + N) cx hfw hpg hnU h27 hn27 hin h51 h6 hnf hd hd' h hst hb with ⟨jR, jC, M', T', G', D', nb', mk', rg', na', ng', Fr', Dp', m1, m2, si, p1, p2, p3, p4⟩ | ⟨jR, jC, M', T', m1, m2, en, p1, p2⟩
        · obtain ⟨iR, iC, M2, T2, q1, q2, q3, q4, q5⟩ := ih N (by omega) K G' D' nb' mk' rg' na' ng' Fr' Dp' M' T' si (by omega) (by omega)
          refine ⟨jR + iR, jC + iC, M2, T2, m1.on _ q1, m2.on _ q2, by omega, by omega, ?_⟩
          rcases q5 with q5 | ⟨G2, D2, nb2, mk2, rg2, na2, ng2, Fr2, Dp2, r1, r2, r3⟩
          · exact Or.inl q5
          · exact Or.inr ⟨G2, D2, nb2, mk2, rg2, na2, ng2, Fr2, Dp2, r1, r2, by omega⟩
        · exact ⟨jR, jC, M', T', m1, m2, p1, p2, Or.inl en⟩
end STI
