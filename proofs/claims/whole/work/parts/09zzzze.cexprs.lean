/-! the class's parser: EXPRS at every depth -/
section CXU
variable {nf d : Nat} {T T' T1 T2 T3 : gSt} {X : Lx} {i j k p p' q m n e c z lo hi : Nat} {x y r : Int32} {t ta tb : Tr} {K : Int32 → Int64 → gSt → gR} {Q : Int32 → Int64 → gSt → Prop}
theorem Rc_01 (h : RcG X T t 0 lo hi z) (hf : fnT T lo z) : RcG X T t 1 lo hi lo := by
  induction t using Tr_ind with
  | hz t hz =>
    unfold RcG at h
    split at h
    · exact absurd rfl (hz _ _ _ _ _)
    · exact absurd h.1 (by omega)
    · exact h.elim
  | h k i e ta tb _ _ =>
    rw [RcG_n] at h ⊢
    unfold RcN at h ⊢
    rw [if_neg (by omega), if_neg (by omega)] at h
    rw [if_neg (by omega), if_pos rfl]
    by_cases c5 : k = 5
    · exfalso
      unfold Rc0 at h
      rw [if_neg (by omega), if_neg (by omega), if_neg (by omega), if_neg (by omega), if_neg (by omega), if_neg (by omega), if_neg (by omega), if_neg (by omega)] at h
      exact h
    · rw [if_neg c5]
      exact ⟨rfl, z, h, hf⟩
theorem c_sop (hX : XO X) (hg : GC X T i p) (hd : 2 ≤ d) : PP nf d 79 T [] [] = some ((if isOp (xK X i) then 1 else 0), 0, T) := by
  obtain ⟨d, rfl⟩ : ∃ g, d = g + 2 := ⟨d - 2, by omega⟩
  have hxn := hX.1
  have hi0 := hg.2.1
  have hk := (hX.2 i).2
  rw [e_Parser_seesOperator _ (d + 1)]
  unfold rb_Parser_seesOperator rj_Parser_seesOperator_18
  rw [hg.lk]
  clear hg
  generalize xK X i = k at *
  have l53 : (nI k < 53) = (k < 53) := propext (nI_ltI (a := k) (b := 53) (by omega) (by omega))
  have l57 : (nI k ≤ 57) = (k ≤ 57) := propext (nI_leI (a := k) (b := 57) (by omega) (by omega))
  have q62 : (nI k = 62) = (k = 62) := ci_eq (i := k) (j := 62) (by omega) (by omega)
  have q51 : (nI k = 51) = (k = 51) := ci_eq (i := k) (j := 51) (by omega) (by omega)
  simp only [l53, l57, q62, q51]
  by_cases c : isOp k
  · rw [if_pos c]
    unfold isOp at c
    repeat' split
    all_goals first | rfl | omega
  · rw [if_neg c]
    unfold isOp at c
    repeat' split
    all_goals first | rfl | omega
theorem zb_ol (h : Bd X T e) (hd : 1 ≤ d) (hn : 1 ≤ n) {x1 x2 x3 x4 : Int32} : rl_Parser_parseExpr_11 (PP nf d) nf n T x1 x2 x3 x4 = some (x2, 0, T) := by
  obtain ⟨n, rfl⟩ : ∃ g, n = g + 1 := ⟨n - 1, by omega⟩
  rw [rl_Parser_parseExpr_11]
  split
  · rfl
  · rw [zb_sop h hd, bis, if_pos rfl]
/-- the loop over operators -/
theorem c_ops (hX : XO X) (hnf : 5000 ≤ nf) (hm : m ≤ 19) (hG : CPx nf X m) (hd : 8 * m + 19 ≤ d) : ∀ (f i q c fl : Nat) (T : gSt) (t : Tr) (z : Nat), f + i ≥ 4001 → c + 1 ≤ i → fl + c ≥ 4002 → GC X T i q → q ≤ i + 2 → RcG X T t 1 lo q z → T.1 13 z = 0 → wp (rl_Parser_parseExpr_11 (PP nf d) nf fl T (nI (20 - m)) (nI lo) (nI z) (nI c)) (fun r _ T' => match pOps (xK X) (pEx (xK X) m) f t i with
    | .ok (t', j) => ∃ q', GC X T' j q' ∧ i ≤ j ∧ q ≤ q' ∧ q' + i ≤ q + j ∧ r = nI lo ∧ FC T T' ∧ Nf T T' lo ∧ T'.1 14 lo = T.1 14 lo ∧ T'.1 15 lo = T.1 15 lo ∧ cRX T' (RcG X T' t') lo q'
    | .error e => CxE X T e r T') := by
  intro f
  induction f with
  | zero =>
    intro i q c fl T t z h1 h2 h3 hg
    have := hg.2.1
    have := hX.1
    omega
  | succ f ih =>
    intro i q c fl T t z h1 h2 h3 hg hq hr h13
    have hxn := hX.1
    have hi0 := hg.2.1
    obtain ⟨fl, rfl⟩ : ∃ g, fl = g + 1 := ⟨fl - 1, by omega⟩
    have le := (Rc_le _ _ _ _ _ (by omega) hr).2.1 rfl
    have n4 : ¬ (4000 : Int32) ≤ nI c := fun w => by
      have := (nI_leI (a := 4000) (b := c) (by omega) (by omega)).mp w
      omega
    rw [rl_Parser_parseExpr_11, if_neg n4, pOps, c_sop hX hg (by omega), bis]
    by_cases co : isOp (xK X i)
    · have hi := K_lt hX rfl (show 0 < xK X i by unfold isOp at co; omega)
      simp only [if_pos co]
      rw [if_neg (show ¬ (1 : Int32) = 0 by decide)]
      rw [vK, hg.lk, at1 hX hg hi (by omega), bis]
      have g1 := hg.mv (j := i + 1) (by omega)
      refine wp_bi (c_term (T := cMv T (i + 1)) hX hnf hm hG g1 (by omega) (by omega) (by omega)) ?_
      intro r _ T2 h2'
      generalize pTerm (xK X) (pEx (xK X) m) (i + 1) = res at *
      cases res with
      | error e =>
        obtain ⟨b5, f5, xr, er, hxr⟩ := h2'
        dsimp only [eb]
        rw [gd, er, if_pos (nin hxr (by omega)), stK, gd, if_pos (nin (by omega) (by omega)), stK, vK, zb_ol ((b5.wr (by omega)).wr (by omega)) (by omega) (by omega)]
        exact wp_some ⟨(b5.wr (by omega)).wr (by omega), ((FC.mv.tr f5).tr (FC.wr (by omega))).tr (FC.wr (by omega)), lo, rfl, by omega⟩
      | ok y =>
        obtain ⟨a, j⟩ := y
        obtain ⟨p2, g2, a1, a2, a3, rfl, f2, n2, v14, v15, rx⟩ := h2'
        rw [if_neg (by omega)] at rx
        obtain ⟨v13, z0, rz, fz⟩ := rx
        have l2 := g2.2.1
        have le2 := (Rc_le _ _ _ _ _ (by omega) rz).1 rfl
        dsimp only [eb]
        rw [gd, if_pos (nin (by omega) (by omega)), nc (by omega), stK, gd, if_pos (nin (by omega) (by omega)), nc (by omega), stK, vK, nI_1]
        have g3 : GC X (sI (sI T2 15 q (nI (xK X i))) 13 z (nI q)) j p2 := (g2.wr (by omega)).wr (by omega)
        have f3 : FC T (sI (sI T2 15 q (nI (xK X i))) 13 z (nI q)) := ((FC.mv.tr f2).tr (FC.wr (by omega))).tr (FC.wr (by omega))
        have v3 : ∀ k j', (sI (sI T2 15 q (nI (xK X i))) 13 z (nI q)).1 k j' = if k = 13 ∧ j' = z then nI q else if k = 15 ∧ j' = q then nI (xK X i) else T2.1 k j' := fun k j' => by
          rw [rdI, rdI]
        generalize sI (sI T2 15 q (nI (xK X i))) 13 z (nI q) = T3 at *
        have o3 : ∀ k j', 11 ≤ k → k ≤ 18 → j' < q → ¬ (k = 13 ∧ j' = z) → T3.1 k j' = T.1 k j' := fun k j' b1 b2 b3 b4 => by
          rw [v3, if_neg b4, if_neg (fun w => by omega), n2 k j' b1 b2 b3]
          exact Nf.mv (p := q) k j' b1 b2 b3
        have r3 : RcG X T3 t 1 lo q z := RcG.ag t 1 _ _ _ (by omega) hr (fun g j' b1 b2 b3 b4 b5 => o3 g j' b1 b2 b4 (fun w => b5 (Or.inr ⟨rfl, Or.inl w⟩)))
        have t3 : RcG X T3 (tD 5 i (xK X i) t a) 1 lo p2 q := by
          rw [RcG_n]
          unfold RcN
          rw [if_neg (by omega), if_pos rfl, if_pos rfl]
          refine ⟨by omega, by omega, ⟨z, r3, by rw [v3, if_pos ⟨rfl, rfl⟩]⟩, by rw [v3, if_neg (by omega), if_pos ⟨rfl, rfl⟩], z0, RcG.ag a 0 _ _ _ (by omega) rz (fun g j' b1 b2 b3 b4 b5 => ?_), ?_⟩
          · rw [v3, if_neg (by omega), if_neg (fun w => b5 (Or.inl ⟨rfl, by unfold exC0; omega⟩))]
          · unfold fnT at fz ⊢
            by_cases c0 : z0 = 0
            · rw [if_pos c0] at fz ⊢
              rw [v3 18 q, if_neg (by omega), if_neg (by omega)]
              exact fz
            · rw [if_neg c0] at fz ⊢
              rw [v3 13 z0, if_neg (by omega), if_neg (by omega)]
              exact fz
        have w13 : T3.1 13 q = 0 := by rw [v3, if_neg (by omega), if_neg (by omega)]; exact v13
        refine wp_mono (ih j p2 (c + 1) fl T3 _ q (by omega) (by omega) (by omega) g3 (by omega) t3 w13) ?_
        intro r _ T4 h4
        generalize pOps (xK X) (pEx (xK X) m) f (tD 5 i (xK X i) t a) j = res at *
        cases res with
        | error e => exact ⟨h4.1, f3.tr h4.2.1, h4.2.2⟩
        | ok y =>
          obtain ⟨t', j2⟩ := y
          obtain ⟨q', g4, b1, b2, b3, b4, f4, n4, w14, w15, rt⟩ := h4
          exact ⟨q', g4, by omega, by omega, by omega, b4, f3.tr f4, fun k j' c1 c2 c3 => by rw [n4 k j' c1 c2 c3, o3 k j' c1 c2 (by omega) (fun w => by omega)], by rw [w14, o3 14 lo (by omega) (by omega) (by omega) (by omega)], by rw [w15, o3 15 lo (by omega) (by omega) (by omega) (by omega)], rt⟩
    · simp only [if_neg co]
      rw [if_pos trivial]
      exact wp_some ⟨q, hg, by omega, by omega, by omega, rfl, FC.rf, Nf.rf, rfl, rfl, z, hr, h13⟩
theorem c_expr (hX : XO X) (hnf : 5000 ≤ nf) (hm : m ≤ 19) (hG : CPx nf X m) (hg : GC X T i p) (hp : p ≤ i + 2) (hd : 8 * m + 20 ≤ d) : wp (PP nf d 78 T [nI (20 - m)] []) (fun r _ T' => CxQ X T i p 0 (pExpr (xK X) (pEx (xK X) m) i) r T') := by
  obtain ⟨d, rfl⟩ : ∃ g, d = g + 1 := ⟨d - 1, by omega⟩
  rw [e_Parser_parseExpr]
  unfold rb_Parser_parseExpr pExpr
  refine wp_bi (c_term hX hnf hm hG hg hp (by omega) (by omega)) ?_
  intro r _ T2 h2
  generalize pTerm (xK X) (pEx (xK X) m) i = res at *
  cases res with
  | error e =>
    obtain ⟨b5, f5, xr, er, hxr⟩ := h2
    rw [zb_ol b5 (by omega) (by omega)]
    exact wp_some ⟨b5, f5, xr, er, hxr⟩
  | ok y =>
    obtain ⟨t, j⟩ := y
    obtain ⟨p2, g2, a1, a2, a3, rfl, f2, n2, v14, v15, rx⟩ := h2
    rw [if_neg (by omega)] at rx
    obtain ⟨v13, z0, rz, fz⟩ := rx
    dsimp only [eb]
    refine wp_mono (c_ops (lo := p) (d := d) hX hnf hm hG (by omega) 4001 j p2 0 nf T2 t p (by omega) (by omega) (by omega) g2 (by omega) (Rc_01 rz fz) v13) ?_
    intro r _ T4 h4
    generalize pOps (xK X) (pEx (xK X) m) 4001 t j = res at *
    cases res with
    | error e => exact ⟨h4.1, f2.tr h4.2.1, h4.2.2⟩
    | ok y =>
      obtain ⟨t', j2⟩ := y
      obtain ⟨q', g4, b1, b2, b3, b4, f4, n4, w14, w15, rt⟩ := h4
      refine ⟨q', g4, by omega, by omega, by omega, b4, f2.tr f4, n2.tr n4, by rw [w14, v14], by rw [w15, v15], ?_⟩
      rw [if_pos rfl]
      exact rt
/-- EXPRS and TERMS, however deep they may go on -/
theorem c_all (hX : XO X) (hnf : 5000 ≤ nf) : ∀ m, m ≤ 20 → CPx nf X m := by
  intro m
  induction m with
  | zero =>
    intro _ md T i p d hmd hg hp hd
    have p8 := hg.p8 hX hp
    have t80 : ∀ d, 5 ≤ d → PP nf d 80 T [nI 21] [] = some (0, 0, cBd X i T) := by
      intro d hd
      obtain ⟨d, rfl⟩ : ∃ g, d = g + 3 := ⟨d - 3, by omega⟩
      rw [e_Parser_parseTerm _ (d + 2)]
      unfold rb_Parser_parseTerm
      rw [if_neg (by decide), c_stop hX hg, bis]
    have b1 := hg.bd hX (by omega)
    show wp (PP nf d (if md = 0 then 78 else 80) T [nI 21] []) (fun r _ T' => CxE X T i r T')
    by_cases c : md = 0
    · rw [if_pos c]
      obtain ⟨d, rfl⟩ : ∃ g, d = g + 1 := ⟨d - 1, by omega⟩
      rw [e_Parser_parseExpr]
      unfold rb_Parser_parseExpr
      rw [t80 d (by omega), bis, zb_ol b1 (by omega) (by omega)]
      exact wp_some ⟨b1, FC.bd, 0, rfl, by omega⟩
    · rw [if_neg c, t80 d (by omega)]
      exact wp_some ⟨b1, FC.bd, 0, rfl, by omega⟩
  | succ m ih =>
    intro hm md T i p d hmd hg hp hd
    have hG := ih (by omega)
    rw [show 21 - (m + 1) = 20 - m by omega, pEx]
    by_cases c : md = 0
    · subst c
      rw [if_pos rfl, if_pos rfl]
      exact c_expr hX hnf (by omega) hG hg hp (by omega)
    · have c1 : md = 1 := by omega
      subst c1
      rw [if_neg (by omega), if_neg (by omega)]
      exact c_term hX hnf (by omega) hG hg hp (by omega) (by omega)
end CXU
