/-! both machines: run */
-/
/-- it goes on: both are at a STEP; for K steps more; what was made and printed is at most B */
-/
def GoO (M0 T0 Sf : gSt) (n1 K P W B : Nat) (M T : gSt) : Prop := ∃ G D nb mk rg na ng Fr Dp, SiG M0 T0 Sf n1 K G D nb mk rg na ng P W Fr Dp M T ∧ (rwC4 M0 (fn (Fr Dp))).1 = 0 ∧ mk + prN M + nuC M0 Fr Dp ≤ B
section STK
variable {M0 T0 Sf S Sh : gSt} {G G' : GH} {D D' : Nat → (Nat → AV) × Nat} {nf d d' nb nb' mk mk' na na' ng ng' e bs ph bt rb tb ie en hb k q u s i j c t h P W Dp n m it n1 : Nat} {rg rg' : Nat → Nat} {ρ : Nat → Nat} {va : Nat → AV} {M M' T T' : gSt} {v : AV} {x a b cc ee op y z w : Int32} {st s0 st' : List Int32} {ov o0 ov' : List AV} {hs : List HD} {F : FRM} {Fr : Nat → FRM} {f : Nat → Int32} {jj : T5} {r1 : Int32} {l1 : Int64} {tg : List Nat}
variable {cs K B jR jC E n27 p : Nat} {F2 F3 : FRM} {hh : HD} {tl : List HD} {Q : Nat → Nat → gSt → List Int32 → List HD → Prop}
theorem wRa_b : ∀ Dp, wRa Fr Dp ≤ 12001 * Dp := by
  intro Dp
  induction Dp with
  | zero => exact Nat.le_refl _
  | succ Dp ih => rw [wRa]; omega
theorem wCa_b : ∀ Dp, wCa Fr Dp ≤ 6033 * Dp := by
  intro Dp
  induction Dp with
  | zero => exact Nat.le_refl _
  | succ Dp ih => rw [wCa]; omega
theorem nu_b (h : Dp < 40) : nuR M0 Fr Dp ≤ 480040 ∧ nuC M0 Fr Dp ≤ 241320 := by
  have h1 := wRa_b (Fr := Fr) Dp
  have h2 := wCa_b (Fr := Fr) Dp
  unfold nuR nuC
  constructor
  · split <;> omega
  · split <;> omega
/-- both go on from where they are, up to the next STEP */
-/
theorem en_no (h : EnO M0 T0 P W M T) : ¬ M.1 100 0 = 1 ∧ ¬ T.1 106 0 = 1 := by
  obtain ⟨_, _, _, _, _, _, _, e, _, _, _, _, z0, z, _⟩ := h
  have : ¬ M.1 100 0 = 1 := fun w => by
    rcases z with ⟨z, _⟩ | ⟨z, _⟩
    · rw [w] at z; exact absurd z (by decide)
    · rw [w] at z; rcases z with z | z | z <;> exact absurd z (by decide)
  exact ⟨this, by rw [← z0]; exact this⟩
/-- what both are at: a STEP */
-/
theorem at_st (h : SiG M0 T0 Sf n1 (K + 1) G D nb mk rg na ng P W Fr Dp M T) (hst : (rwC4 M0 (fn (Fr Dp))).1 = 0) : ∃ p S0, M.1 102 0 = nI (fn (Fr Dp)) ∧ fn (Fr Dp) < 12000 ∧ M.1 96 (fn (Fr Dp)) = 0 ∧ M.1 97 (fn (Fr Dp)) = nI p ∧ T.1 105 0 = nI (fm (Fr Dp)) ∧ T.1 51 = T0.1 51 ∧ fm (Fr Dp) < n1 ∧ T.1 48 (fm (Fr Dp)) = 1 ∧ T.1 49 (fm (Fr Dp)) = nI p ∧ M.1 103 0 = nI (Dp + 1) ∧ T.1 102 0 = nI (Dp + 1) ∧ WkT Sf (fS (Fr Dp)) S0 ∧ IvP Sf (fit (Fr Dp)) S0 (fst' (Fr Dp)) (fhs (Fr Dp)) ∧ Gdk M0 T0 Sf n1 (fit (Fr Dp)) K (fn (Fr Dp) + 1) (fm (Fr Dp) + 1) S0 (fst' (Fr Dp)) (fhs (Fr Dp)) := by
  obtain ⟨⟨s1, _⟩, S0, wk, iv, n12, mn, _, ru⟩ := h
  obtain ⟨w1, w2, w3, w4, w5, w6, w7, w8, w9⟩ := s1.rw (n := fn (Fr Dp)) (m := fm (Fr Dp))
  obtain ⟨p, r1, r2, e, hq⟩ := ru_st ru hst
  rw [r1] at w1
  rw [r2] at w2
  unfold rwC4 at w1
  unfold cw3 at w2
  injection w1 with a1 a2
  injection a2 with a2 a3
  injection w2 with c1 c2
  injection c2 with c2 c3
  rw [e] at iv ⊢
  exact ⟨p, S0, w4, n12, a1, a2, w5, w3, mn, c1, c2, w8, w9, wk, iv, hq⟩
theorem go_on (cx : CxP M0 T0 Sf) (hfw : FwQ Sf T0) (hpg : PgG M0 T0 Sf n1) (hnU : nU M0 ≤ 4000) (h27 : T0.1 27 0 = nI n27) (hn27 : n27 ≤ 24) (hin : inn Sf ≤ n27) (h51 : T0.1 51 0 = nI n1) (h6 : n1 ≤ 6032) (hnf : 970000 ≤ nf) (hd : 20 ≤ d) (hd' : 20 ≤ d') (hcs : 960082 ≤ cs) (h : SiG M0 T0 Sf n1 (K + 1 + cs) G D nb mk rg na ng P W Fr Dp M T) (hB : mk + prN M + nuC M0 Fr Dp ≤ B) (hb : B < 2 ^ 31) : ∃ M' T', RR nf (d + 1) 117 M [] [] = some (0, 0, M') ∧ PP nf (d' + 1) 196 T [] [] = some (0, 0, T') ∧ (GoO M0 T0 Sf n1 (K + 1) P W B M' T' ∨ EnO M0 T0 P W M' T') := by
  have hD := h.1.1.2.1.1
  obtain ⟨u1, u2⟩ := nu_b (M0 := M0) (Fr := Fr) hD
  obtain ⟨jR, jC, M', T', q1, q2, q3, q4, q5⟩ := go_both (nf := nf) (d := d) (d' := d') (P := P) (W := W) cx hfw hpg hnU h27 hn27 hin h51 h6 (by omega) hd hd' cs (K + 1) G D nb mk rg na ng Fr Dp M T h (by omega) (by omega)
  have fin : (¬ M'.1 100 0 = 1 ∨ ∃ n, M'.1 102 0 = nI n ∧ n < 12000 ∧ M'.1 96 n = 0) → (¬ T'.1 106 0 = 1 ∨ ∃ m c, T'.1 105 0 = nI m ∧ T'.1 51 0 = nI c ∧ c ≤ 6032 ∧ m < c ∧ T'.1 48 m = 1) → RR nf (d + 1) 117 M [] [] = some (0, 0, M') ∧ PP nf (d' + 1) 196 T [] [] = some (0, 0, T') := fun a b => by
    rw [e_Model_goOn, e_Machine_goOn]
    unfold rb_Model_goOn rb_Machine_goOn
    exact ⟨go_R jR nf M M' q1 a (by omega), go_C jC nf 0 T T' q2 b (by omega) (by omega) (by omega)⟩
  rcases q5 with en | ⟨G', D', nb', mk', rg', na', ng', Fr', Dp', si, st, hle⟩
  · obtain ⟨e1, e2⟩ := en_no en
    obtain ⟨f1, f2⟩ := fin (Or.inl e1) (Or.inl e2)
    exact ⟨M', T', f1, f2, Or.inr en⟩
  · obtain ⟨p, S0, a1, a2, a3, a4, a5, a6, a7, a8, _⟩ := at_st si st
    obtain ⟨f1, f2⟩ := fin (Or.inr ⟨_, a1, a2, a3⟩) (Or.inr ⟨_, n1, a5, by rw [a6]; exact h51, h6, a7, a8⟩)
    exact ⟨M', T', f1, f2, Or.inl ⟨G', D', nb', mk', rg', na', ng', Fr', Dp', si, st, by omega⟩⟩
/-- a STEP, and on to the next one */
-/
theorem one_st (cx : CxP M0 T0 Sf) (hfw : FwQ Sf T0) (hpg : PgG M0 T0 Sf n1) (hnU : nU M0 ≤ 4000) (h27 : T0.1 27 0 = nI n27) (hn27 : n27 ≤ 24) (hin : inn Sf ≤ n27) (h51 : T0.1 51 0 = nI n1) (h6 : n1 ≤ 6032) (hnf : 970000 ≤ nf) (hd : 20 ≤ d) (hd' : 20 ≤ d') (hcs : 960082 ≤ cs) (h : GoO M0 T0 Sf n1 (K + 1 + (cs + 1)) P W B M T) (hb : B + 6033 < 2 ^ 31) : ∃ p n m e M' T', M.1 100 0 = 1 ∧ T.1 106 0 = 1 ∧ M.1 102 0 = nI n ∧ n < 12000 ∧ M.1 97 n = nI p ∧ M.1 103 0 = nI (e + 1) ∧ e < 40 ∧ T.1 105 0 = nI m ∧ T.1 51 0 = nI n1 ∧ m < n1 ∧ T.1 49 m = nI p ∧ T.1 102 0 = nI (e + 1) ∧ RR nf (d + 1) 117 (sI (sI (sI M 101 0 (M.1 101 0 + 1)) 115 e (nI p)) 102 0 (nI (n + 1))) [] [] = some (0, 0, M') ∧ PP nf (d' + 1) 196 (sI (sI (sI T 101 (17 * (e + 1) + 2) (nI p)) 105 0 (nI (m + 1))) 108 0 (T.1 108 0 + 1)) [] [] = some (0, 0, T') ∧ (GoO M0 T0 Sf n1 (K + 1) P W (B + 6033) M' T' ∨ EnO M0 T0 P W M' T') := by
  obtain ⟨G, D, nb, mk, rg, na, ng, Fr, Dp, si, st, hle⟩ := h
  have hc6 : cn Sf ≤ 6000 := by have := cx.2.1; omega
  obtain ⟨p, S0, a1, a2, a3, a4, a5, a6, a7, a8, a9, a10, a11, wk, iv, hq⟩ := at_st (K := K + 1 + cs) si st
  obtain ⟨⟨s1, rn, h3, h4⟩, _⟩ := si
  have s2 := Sim.wt cx.1 hc6 s1 wk iv
  have s3 := st_step (p := p) cx s2
  rw [upd_v, upd_2] at s3
  have hg : SiG M0 T0 Sf n1 (K + 1 + cs) G D nb mk rg na ng P W (updF Fr Dp (mkF S0 (fρ (Fr Dp)) (fva (Fr Dp)) (fst' (Fr Dp)) (fov (Fr Dp)) (fhs (Fr Dp)) (fit (Fr Dp)) (fn (Fr Dp) + 1) (fm (Fr Dp) + 1) (fbs (Fr Dp)) (fph (Fr Dp)) (frb (Fr Dp)) (ftb (Fr Dp)) (fie (Fr Dp)))) Dp (sI (sI (sI M 101 0 (M.1 101 0 + 1)) 115 Dp (nI p)) 102 0 (nI (fn (Fr Dp) + 1))) (sI (sI (sI T 101 (17 * (Dp + 1) + 2) (nI p)) 105 0 (nI (fm (Fr Dp) + 1))) 108 0 (T.1 108 0 + 1)) := by
    have z : SiZ M0 T0 Sf n1 (K + 1 + cs + 1) G D nb mk rg na ng P W Fr Dp M T := ⟨s1, rn, h3, h4⟩
    refine z.nx s3 ⟨by rw [sI_ne (by omega), sI_ne (by omega), sI_ne (by omega)]; exact rn.1, by rw [sI_ne (by omega), sI_ne (by omega), sI_ne (by omega)]; exact rn.2⟩ rfl (fun _ _ => rfl) (HsG.dn _ (h3 Dp (Nat.le_refl _))) hq
  have prE : prN (sI (sI (sI M 101 0 (M.1 101 0 + 1)) 115 Dp (nI p)) 102 0 (nI (fn (Fr Dp) + 1))) = prN M := by
    unfold prN
    rw [sI_ne (by omega), sI_ne (by omega), sI_ne (by omega)]
  obtain ⟨M', T', f1, f2, f3⟩ := go_on (K := K) (B := B + 6033) cx hfw hpg hnU h27 hn27 hin h51 h6 hnf hd hd' hcs hg (by
    rw [prE]
    unfold nuC at hle ⊢
    rw [if_pos st] at hle
    rw [upd_wC]
    split <;> omega) hb
  exact ⟨p, fn (Fr Dp), fm (Fr Dp), Dp, M', T', rn.1, rn.2, a1, a2, a4, a10, s1.2.1.1, a5, by rw [a6]; exact h51, a7, a9, a11, f1, f2, f3⟩
/-- run(a), from the i-th STEP on */
-/
theorem run_both (cx : CxP M0 T0 Sf) (hfw : FwQ Sf T0) (hpg : PgG M0 T0 Sf n1) (hnU : nU M0 ≤ 4000) (h27 : T0.1 27 0 = nI n27) (hn27 : n27 ≤ 24) (hin : inn Sf ≤ n27) (h51 : T0.1 51 0 = nI n1) (h6 : n1 ≤ 6032) (hnf : 970000 ≤ nf) (hd : 20 ≤ d) (hd' : 20 ≤ d') (hcs : 960082 ≤ cs) : ∀ (r i k K B : Nat) (M T : gSt), (GoO M0 T0 Sf n1 (K + 1 + r * (cs + 1)) P W B M T ∨ EnO M0 T0 P W M T) → i + r ≤ 500 → B + r * 6033 < 2 ^ 31 → r < k → ∃ c M' T', rl_Model_run_I_24 (RR nf (d + 1)) nf k M (nI (i + r)) (nI i) = some (nI c, 0, M') ∧ rl_Machine_doSteps_2 (PP nf (d' + 1)) nf k T (nI (i + r)) (nI i) = some (nI c, 0, T') ∧ (GoO M0 T0 Sf n1 (K + 1) P W (B + r * 6033) M' T' ∨ EnO M0 T0 P W M' T') := by
  intro r
  induction r with
  | zero =>
    intro i k K B M T h hi hb hk
    obtain ⟨k, rfl⟩ : ∃ k', k = k' + 1 := ⟨k - 1, by omega⟩
    refine ⟨i, M, T, ?_, ?_, ?_⟩
    · rw [rl_Model_run_I_24, Nat.add_zero, if_pos (Int32.le_refl _)]
    · rw [rl_Machine_doSteps_2, Nat.add_zero, if_pos (Int32.le_refl _)]
    · rw [Nat.zero_mul, Nat.add_zero] at h ⊢
      exact h
  | succ r ih =>
    intro i k K B M T h hi hb hk
    obtain ⟨k, rfl⟩ : ∃ k', k = k' + 1 := ⟨k - 1, by omega⟩
    have lt : ¬ nI (i + (r + 1)) ≤ nI i := fun w => by
      have := (nI_leI (a := i + (r + 1)) (b := i) (by omega) (by omega)).mp w
      omega
    rw [rl_Model_run_I_24, rl_Machine_doSteps_2, if_neg lt, if_neg lt]
    rcases h with h | h
    · obtain ⟨p, n, m, e, M', T', z1, z2, z3, z4, z5, z6, z7, z8, z9, z10, z11, z12, f1, f2, f3⟩ := one_st (K := K + r * (cs + 1)) cx hfw hpg hnU h27 hn27 hin h51 h6 hnf hd hd' hcs (by rw [show K + r * (cs + 1) + 1 + (cs + 1) = K + 1 + (r + 1) * (cs + 1) by rw [Nat.add_mul r 1 (cs + 1)]; omega]; exact h) (by omega)
      obtain ⟨c, M2, T2, g1, g2, g3⟩ := ih (i + 1) k K (B + 6033) M' T' (by rw [show K + 1 + r * (cs + 1) = K + r * (cs + 1) + 1 by omega]; exact f3) (by omega) (by omega) (by omega)
      rw [show i + 1 + r = i + (r + 1) by omega] at g1 g2
      refine ⟨c, M2, T2, ?_, ?_, by rw [show B + (r + 1) * 6033 = B + 6033 + r * 6033 by omega]; exact g3⟩
      · rw [if_pos z1]
        unfold stK vK gd
        dsimp only
        rw [sI_ne (g' := 102) (by omega), sI_ne (g' := 103) (by omega), z3, z6, nI_sub, if_pos (nin (by omega) (by omega)), if_pos (nin (by omega) (by omega)), nc (by omega), nc (by omega), sI_ne (g' := 97) (by omega), z5, sI_ne (g' := 102) (by omega), sI_ne (g' := 102) (by omega), z3, nI_1, f1, bis, nI_1]
        exact g1
      · rw [if_pos z2, z8, (c_row z9 h6 z10 (by omega)).2.1, bis, z11, show (2 : Int32) = nI 2 from rfl, c_setFrame (c := e + 1) z12 (by omega) (by omega) (by omega), bis]
        unfold stK vK
        dsimp only
        rw [sI_ne (g' := 105) (by omega), z8, nI_1, sI_ne (g' := 108) (by omega), sI_ne (g' := 108) (by omega), f2, bis, nI_1]
        exact g2
    · obtain ⟨e1, e2⟩ := en_no h
      exact ⟨i, M, T, by rw [if_neg e1], by rw [if_neg e2], Or.inr h⟩
end STK
