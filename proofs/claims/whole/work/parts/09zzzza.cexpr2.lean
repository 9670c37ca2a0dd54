/-! the class's parser: arguments, PRIMARIES -/
section CXA
variable {nf d : Nat} {T T' T1 T2 : gSt} {X : Lx} {i j k p p' q m n e c z lo hi : Nat} {x y r : Int32} {t ta tb : Tr} {K : Int32 → Int64 → gSt → gR} {Q : Int32 → Int64 → gSt → Prop}
/-- arguments behind the first; l: the node of the one ahead -/
theorem c_agl (hX : XO X) (hnf : 100 ≤ nf) (hm : m ≤ 20) (hG : CPx nf X m) (hc : c = 43 ∨ c = 41) (hx : x = nI c) (hd : 8 * m + 14 ≤ d) : ∀ (f q i p l fl : Nat) (T : gSt) (x3 : Int32), 1 ≤ q → q ≤ 8 → f + i ≥ 4001 → 9 - q < fl → GC X T i p → p ≤ i + 1 → l < p → T.1 14 l = 0 → (∃ w, x3 = nI w ∧ w < 4008) → wp (rl_Parser_parseArguments_22 (PP nf d) nf fl T (nI (21 - m)) x x3 (nI l) (nI q)) (fun r _ T' => match pArgs (xK X) (pEx (xK X) m 0) c f q i with
    | .ok (t, j) => ∃ p', GC X T' j p' ∧ i < j ∧ p ≤ p' ∧ p' + i + 1 ≤ p + j ∧ r = x3 ∧ FC T T' ∧ (∀ k j', 11 ≤ k → k ≤ 18 → j' < p → ¬ (k = 14 ∧ j' = l) → T'.1 k j' = T.1 k j') ∧ T'.1 14 l = (if isZ t = true then 0 else nI p) ∧ RcG X T' t 2 p p' 0
    | .error e => CxE X T e r T') := by
  intro f
  induction f with
  | zero =>
    intro q i p l fl T x3 h1 h2 h3 h4 hg
    have := hg.2.1
    have := hX.1
    omega
  | succ f ih =>
    intro q i p l fl T x3 h1 h2 h3 h4 hg hp hl h14 h33
    have x0 : x ≠ 0 := by rcases hc with h | h <;> (rw [hx, h]; decide)
    have hxn := hX.1
    have hi0 := hg.2.1
    obtain ⟨fl, rfl⟩ : ∃ g, fl = g + 1 := ⟨fl - 1, by omega⟩
    have zl : inb (nI l) 4008 := nin (by omega) (by omega)
    have cl : (nI l).toNatClampNeg = l := nc (by omega)
    have n8 : ¬ (8 : Int32) < nI q := fun w => by
      have := (nI_ltI (a := 8) (b := q) (by omega) (by omega)).mp w
      omega
    rw [rl_Parser_parseArguments_22, if_neg n8, pArgs]
    refine w_acc (k := 47) hX hg rfl (by omega) (by omega) (fun k47 => ?_) (fun k47 => ?_)
    · have hi := K_lt hX k47 (by omega)
      have g1 := hg.mv (j := i + 1) (by omega)
      rw [if_neg (show ¬ (1 : Int32) = 0 by decide), if_neg (show ¬ xK X i = c by omega), if_neg (show ¬ (q ≠ 0 ∧ xK X i ≠ 47) by omega)]
      by_cases q8 : q = 8
      · rw [if_pos (show nI q = 8 by rw [q8]; rfl), if_pos q8]
        refine w_stop hX g1 (by omega) ?_
        have b1 := g1.bd hX (by omega)
        have f1 : FC T (cBd X (i + 1) (cMv T (i + 1))) := FC.mv.tr FC.bd
        generalize cBd X (i + 1) (cMv T (i + 1)) = T2 at *
        unfold rj_Parser_parseArguments_49
        rw [zb_expr hX (by omega) b1 (by omega), bis, gd, if_pos zl, cl, stK, vK, q8, nI_1]
        obtain ⟨fl, rfl⟩ : ∃ g, fl = g + 1 := ⟨fl - 1, by omega⟩
        rw [rl_Parser_parseArguments_22, if_pos (by decide)]
        exact wb_need hX (b1.wr (by omega)) (by omega) (wp_some ⟨b1.wr (by omega), f1.tr (FC.wr (by omega)), h33⟩)
      · have n88 : ¬ nI q = 8 := fun w => by
          have := nI_inj (b := 8) (by omega) (by omega) w
          omega
        rw [if_neg n88, if_neg q8, if_neg (show ¬ q = 0 by omega)]
        unfold rj_Parser_parseArguments_49
        refine wp_bi (hG 0 (cMv T (i + 1)) (i + 1) p d (by omega) g1 (by omega) (by omega)) ?_
        intro r _ T2 h2
        rw [gd, if_pos zl, cl, stK, vK, nI_1]
        generalize pEx (xK X) m 0 (i + 1) = res at *
        cases res with
        | error e =>
          obtain ⟨b2, f2, xr, er, hr⟩ := h2
          have b3 : Bd X (sI T2 14 l r) e := b2.wr (by omega)
          have f3 : FC T (sI T2 14 l r) := (FC.mv.tr f2).tr (FC.wr (by omega))
          generalize sI T2 14 l r = T3 at *
          obtain ⟨fl, rfl⟩ : ∃ g, fl = g + 1 := ⟨fl - 1, by omega⟩
          rw [rl_Parser_parseArguments_22]
          split
          · exact wb_need hX b3 (by omega) (wp_some ⟨b3, f3, h33⟩)
          · refine wb_acc b3 (by omega) ?_
            rw [if_pos rfl]
            exact wb_need hX b3 (by omega) (wp_some ⟨b3, f3, h33⟩)
        | ok y =>
          obtain ⟨a, j⟩ := y
          obtain ⟨p2, g2, a1, a2, a3, rfl, f2, n2, v14, v15, rx⟩ := h2
          rw [if_pos rfl] at rx
          have l2 := g2.2.1
          have g3 : GC X (sI T2 14 l (nI p)) j p2 := g2.wr (by omega)
          have f3 : FC T (sI T2 14 l (nI p)) := (FC.mv.tr f2).tr (FC.wr (by omega))
          have n3 : ∀ k j', 11 ≤ k → k ≤ 18 → j' < p → ¬ (k = 14 ∧ j' = l) → (sI T2 14 l (nI p)).1 k j' = T.1 k j' := fun k j' b1 b2 b3 b4 => by
            rw [rdI, if_neg b4, n2 k j' b1 b2 b3]
            exact Nf.mv (p := p) k j' b1 b2 b3
          have v3 : (sI T2 14 l (nI p)).1 14 l = nI p := sI_v
          have w14 : (sI T2 14 l (nI p)).1 14 p = 0 := by rw [rdI, if_neg (fun w => by omega)]; exact v14
          have rx3 : cRX (sI T2 14 l (nI p)) (RcG X (sI T2 14 l (nI p)) a) p p2 := rx.ag (fun g j' b1 b2 b3 b4 _ => by rw [rdI, if_neg (fun w => by omega)])
          generalize sI T2 14 l (nI p) = T3 at *
          dsimp only [eb]
          have go := ih (q + 1) j p2 p fl T3 x3 (by omega) (by omega) (by omega) (by omega) g3 (by omega) (by omega) w14 h33
          refine wp_mono go ?_
          intro r _ T4 h4
          generalize pArgs (xK X) (pEx (xK X) m 0) c f (q + 1) j = res at *
          cases res with
          | error e =>
            obtain ⟨b4, f4, xr⟩ := h4
            exact ⟨b4, f3.tr f4, xr⟩
          | ok y =>
            obtain ⟨rt, j2⟩ := y
            obtain ⟨p4, g4, c1, c2, c3, c4, f4, n4, v4, rl⟩ := h4
            refine ⟨p4, g4, by omega, by omega, by omega, c4, f3.tr f4, fun k j' b1 b2 b3 b4 => ?_, ?_, ?_⟩
            · rw [n4 k j' b1 b2 (by omega) (fun w => by omega), n3 k j' b1 b2 b3 b4]
            · rw [n4 14 l (by omega) (by omega) (by omega) (fun w => by omega), v3]
              rfl
            · rw [RcG_n]
              unfold RcN
              rw [if_pos rfl]
              refine ⟨rfl, rfl, p2, a2, c2, rx3.ag (fun g j' b1 b2 b3 b4 b5 => n4 g j' b1 b2 (by omega) (fun w => b5 ⟨Or.inl w.1, w.2⟩)), v4, rl⟩
    · rw [if_pos rfl]
      by_cases kc : xK X i = c
      · rw [if_pos kc]
        have hi := K_lt hX kc (by omega)
        refine w_need (k := c) hX hg hx (by omega) (by omega) (fun _ => ?_) (fun w => absurd kc w)
        refine wp_some ⟨p, hg.mv (by omega), by omega, by omega, by omega, rfl, FC.mv, fun k j' b1 b2 b3 _ => Nf.mv (p := p) k j' b1 b2 b3, ?_, ?_⟩
        · rw [if_pos (show isZ tZ = true from rfl)]
          rw [cMv_o (by omega)]
          exact h14
        · exact ⟨rfl, rfl, rfl⟩
      · rw [if_neg kc, if_pos ⟨by omega, k47⟩]
        refine w_need (k := c) hX hg hx (by omega) (by omega) (fun w => absurd w kc) (fun _ => ?_)
        exact wp_some ⟨hg.bd hX (by omega), FC.bd, h33⟩
theorem c_args (hX : XO X) (hnf : 100 ≤ nf) (hm : m ≤ 20) (hG : CPx nf X m) (hc : c = 43 ∨ c = 41) (hx : x = nI c) (hd : 8 * m + 15 ≤ d) (hg : GC X T i p) (hp : p ≤ i + 1) : wp (PP nf d 85 T [nI (21 - m), x] []) (fun r _ T' => CaQ X T i p (pArgs (xK X) (pEx (xK X) m 0) c 4001 0 i) r T') := by
  obtain ⟨d, rfl⟩ : ∃ g, d = g + 1 := ⟨d - 1, by omega⟩
  have hxn := hX.1
  have hi0 := hg.2.1
  have x0 : x ≠ 0 := by rcases hc with h | h <;> (rw [hx, h]; decide)
  rw [e_Parser_parseArguments]
  unfold rb_Parser_parseArguments
  rw [pArgs]
  refine w_acc (k := c) hX hg hx (by omega) (by omega) (fun kc => ?_) (fun kc => ?_)
  · rw [if_neg (show ¬ (1 : Int32) = 0 by decide), if_pos kc]
    have hi := K_lt hX kc (by omega)
    exact wp_some ⟨p, hg.mv (by omega), by omega, by omega, by omega, rfl, FC.mv, Nf.mv, rfl, rfl, rfl⟩
  · rw [if_pos (rfl : (0 : Int32) = 0), if_neg kc, if_neg (show ¬ (0 ≠ 0 ∧ xK X i ≠ 47) by omega), if_neg (show ¬ 0 = 8 by omega), if_pos (rfl : 0 = 0)]
    refine wp_bi (hG 0 T i p d (by omega) hg (by omega) (by omega)) ?_
    intro r _ T2 h2
    generalize hr : pEx (xK X) m 0 i = res at *
    cases res with
    | error e =>
      obtain ⟨b2, f2, xr, er, hr⟩ := h2
      obtain ⟨nf, rfl⟩ : ∃ g, nf = g + 1 := ⟨nf - 1, by omega⟩
      rw [rl_Parser_parseArguments_22, if_neg (by decide)]
      refine wb_acc b2 (by omega) ?_
      rw [if_pos rfl]
      exact wb_need hX b2 (by omega) (wp_some ⟨b2, f2, xr, er, hr⟩)
    | ok y =>
      obtain ⟨a, j⟩ := y
      obtain ⟨p2, g2, a1, a2, a3, rfl, f2, n2, v14, v15, rx⟩ := h2
      rw [if_pos rfl] at rx
      dsimp only [eb]
      have go := c_agl (d := d) hX hnf hm hG hc hx (by omega) 4000 1 j p2 p nf T2 (nI p) (by omega) (by omega) (by omega) (by omega) g2 (by omega) (by omega) v14 ⟨p, rfl, by omega⟩
      refine wp_mono go ?_
      intro r _ T4 h4
      generalize pArgs (xK X) (pEx (xK X) m 0) c 4000 1 j = res at *
      cases res with
      | error e =>
        obtain ⟨b4, f4, xr⟩ := h4
        exact ⟨b4, f2.tr f4, xr⟩
      | ok y =>
        obtain ⟨rt, j2⟩ := y
        obtain ⟨p4, g4, c1, c2, c3, c4, f4, n4, v4, rl⟩ := h4
        refine ⟨p4, g4, by omega, by omega, by omega, c4, f2.tr f4, fun k j' b1 b2 b3 => ?_, ?_⟩
        · rw [n4 k j' b1 b2 (by omega) (fun w => by omega), n2 k j' b1 b2 b3]
        · rw [RcG_n]
          unfold RcN
          rw [if_pos rfl]
          exact ⟨rfl, rfl, p2, a2, c2, rx.ag (fun g j' b1 b2 b3 b4 b5 => n4 g j' b1 b2 (by omega) (fun w => b5 ⟨Or.inl w.1, w.2⟩)), v4, rl⟩
end CXA
