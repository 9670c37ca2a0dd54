/-! the class's parser: TERMS, EXPRS -/
def pTl (K : Nat → Nat) (G : Nat → Nat → ER) (i : Nat) : ER :=
  if K i = 49 ∨ K i = 33 then ek K 2 (i + 1) (.ok (tZ, i + 2))
  else if K i = 61 then .ok (tZ, i + 1)
  else eb (G 0 (i + 1)) fun a j => ek K 45 j (.ok (a, j + 1))
def tlT (k i : Nat) (t a : Tr) : Tr := if k = 44 then tD 4 i 0 t a else tD 3 i 0 t tZ
def isTl (k : Nat) : Prop := k = 49 ∨ k = 33 ∨ k = 61 ∨ k = 44
def CtQ (X : Lx) (T : gSt) (i p : Nat) (res : ER) (r : Int32) (T' : gSt) : Prop := match res with
  | .ok (a, j) => ∃ p', GC X T' j p' ∧ i < j ∧ p < p' ∧ p' + i ≤ p + j ∧ r = nI p ∧ FC T T' ∧ Nf T T' p ∧ T'.1 13 p = 0 ∧ T'.1 11 p = nI (xK X i) ∧ T'.1 12 p = nI i ∧ (if xK X i = 44 then T'.1 17 p = nI (p + 1) ∧ p + 1 < p' ∧ cRX T' (RcG X T' a) (p + 1) p' else p' = p + 1)
  | .error e => CxE X T e r T'
section CXT
variable {nf d : Nat} {T T' T1 T2 T3 : gSt} {X : Lx} {i j k p p' q m n e c z lo hi : Nat} {x y r : Int32} {t ta tb : Tr} {K : Int32 → Int64 → gSt → gR} {Q : Int32 → Int64 → gSt → Prop}
theorem pTails_s {Kn : Nat → Nat} {G : Nat → Nat → ER} {f : Nat} : pTails Kn G (f + 1) t i = if Kn i = 49 ∨ Kn i = 33 ∨ Kn i = 61 ∨ Kn i = 44 then eb (pTl Kn G i) fun a j => pTails Kn G f (tlT (Kn i) i t a) j else .ok (t, i) := by
  rw [pTails]
  unfold pTl tlT ek
  by_cases c1 : Kn i = 49 ∨ Kn i = 33
  · rw [if_pos c1, if_pos c1, if_pos (show Kn i = 49 ∨ Kn i = 33 ∨ Kn i = 61 ∨ Kn i = 44 by omega)]
    by_cases c2 : Kn (i + 1) = 2
    · rw [if_pos c2, if_pos c2]
      dsimp only [eb]
      rw [if_neg (by omega)]
    · rw [if_neg c2, if_neg c2]
      rfl
  · rw [if_neg c1, if_neg c1]
    by_cases c3 : Kn i = 61
    · rw [if_pos c3, if_pos c3, if_pos (show Kn i = 49 ∨ Kn i = 33 ∨ Kn i = 61 ∨ Kn i = 44 by omega)]
      dsimp only [eb]
      rw [if_neg (by omega)]
    · rw [if_neg c3, if_neg c3]
      by_cases c4 : Kn i = 44
      · rw [if_pos c4, if_pos (show Kn i = 49 ∨ Kn i = 33 ∨ Kn i = 61 ∨ Kn i = 44 by omega)]
        simp only [if_pos c4]
        cases G 0 (i + 1) with
        | error e => rfl
        | ok y =>
          obtain ⟨a, j⟩ := y
          dsimp only [eb]
          by_cases c5 : Kn j = 45
          · rw [if_pos c5, if_pos c5]
          · rw [if_neg c5, if_neg c5]
      · rw [if_neg c4, if_neg (show ¬ (Kn i = 49 ∨ Kn i = 33 ∨ Kn i = 61 ∨ Kn i = 44) by omega)]
theorem c_tail (hX : XO X) (hm : m ≤ 20) (hG : CPx nf X m) (hg : GC X T i p) (hp : p ≤ i + 2) (hk : xK X i = 49 ∨ xK X i = 33 ∨ xK X i = 61 ∨ xK X i = 44) (hd : 8 * m + 14 ≤ d) : wp (PP nf d 81 T [nI (20 - m)] []) (fun r _ T' => CtQ X T i p (pTl (xK X) (pEx (xK X) m) i) r T') := by
  obtain ⟨d, rfl⟩ : ∃ g, d = g + 1 := ⟨d - 1, by omega⟩
  have hxn := hX.1
  have hi := K_lt hX rfl (show 0 < xK X i by omega)
  have p8 := hg.p8 hX hp
  have e21 : nI (20 - m) + 1 = nI (21 - m) := by rw [nI_1, show 20 - m + 1 = 21 - m by omega]
  have zp : inb (nI p) 4008 := nin (by omega) (by omega)
  have cp : (nI p).toNatClampNeg = p := nc (by omega)
  rw [e_Parser_parseTail]
  unfold rb_Parser_parseTail
  rw [vK, hg.lk]
  refine w_node hg p8 (by omega) ?_
  have g3 : GC X (cNd T p (nI (xK X i)) (nI i)) i (p + 1) := hg.nd
  have f3 : FC T (cNd T p (nI (xK X i)) (nI i)) := FC.nd
  have n3 : Nf T (cNd T p (nI (xK X i)) (nI i)) p := Nf.nd
  have v3 : FrN (cNd T p (nI (xK X i)) (nI i)) p (nI (xK X i)) (nI i) := FrN.mk
  rw [at1 hX g3 hi (by omega), bis]
  generalize cNd T p (nI (xK X i)) (nI i) = T3 at *
  have g4 : GC X (cMv T3 (i + 1)) (i + 1) (p + 1) := g3.mv (by omega)
  have f4 : FC T (cMv T3 (i + 1)) := f3.tr FC.mv
  have n4 : Nf T (cMv T3 (i + 1)) p := n3.tr Nf.mv
  have v4 : FrN (cMv T3 (i + 1)) p (nI (xK X i)) (nI i) := v3.mv
  generalize cMv T3 (i + 1) = T4 at *
  unfold pTl
  by_cases c1 : xK X i = 49 ∨ xK X i = 33
  · rw [if_pos c1]
    unfold ek
    have n44 : ¬ nI (xK X i) = 44 := fun w => by have := nI_inj (b := 44) (by omega) (by omega) w; omega
    have n61 : ¬ nI (xK X i) = 61 := fun w => by have := nI_inj (b := 61) (by omega) (by omega) w; omega
    rw [if_neg n44, if_neg n61]
    refine w_need (k := 2) hX g4 rfl (by omega) (by omega) (fun k2 => ?_) (fun k2 => ?_)
    · rw [if_pos k2]
      have h2 := K_lt hX k2 (by omega)
      have v5 := v4.mv (i := i + 1 + 1)
      refine wp_some ⟨p + 1, g4.mv (by omega), by omega, by omega, by omega, rfl, f4.tr FC.mv, n4.tr Nf.mv, v5.2.2.1, v5.1, v5.2.1, ?_⟩
      rw [if_neg (by omega)]
    · rw [if_neg k2]
      exact wp_some ⟨g4.bd hX (by omega), f4.tr FC.bd, p, rfl, p8⟩
  · rw [if_neg c1]
    by_cases c3 : xK X i = 61
    · rw [if_pos c3, if_neg (by rw [c3]; decide), if_pos (by rw [c3]; decide)]
      refine wp_some ⟨p + 1, g4, by omega, by omega, by omega, rfl, f4, n4, v4.2.2.1, v4.1, v4.2.1, ?_⟩
      rw [if_neg (by omega)]
    · have c4 : xK X i = 44 := by omega
      rw [if_neg c3, if_pos (by rw [c4]; decide), e21]
      refine wp_bi (hG 0 T4 (i + 1) (p + 1) d (by omega) g4 (by omega) (by omega)) ?_
      intro r _ T5 h5
      rw [gd, if_pos zp, cp, stK]
      generalize pEx (xK X) m 0 (i + 1) = res at *
      cases res with
      | error e =>
        obtain ⟨b5, f5, _⟩ := h5
        exact wb_need hX (b5.wr (by omega)) (by omega) (wp_some ⟨b5.wr (by omega), (f4.tr f5).tr (FC.wr (by omega)), p, rfl, p8⟩)
      | ok y =>
        obtain ⟨a, j⟩ := y
        obtain ⟨p5, g5, a1, a2, a3, rfl, f5, n5, v14, v15, rx⟩ := h5
        rw [if_pos rfl] at rx
        dsimp only [eb]
        unfold ek
        have g6 : GC X (sI T5 17 p (nI (p + 1))) j p5 := g5.wr (by omega)
        have f6 : FC T (sI T5 17 p (nI (p + 1))) := (f4.tr f5).tr (FC.wr (by omega))
        have w6 : ∀ k j', 11 ≤ k → k ≤ 18 → j' < p + 1 → ¬ (k = 17 ∧ j' = p) → (sI T5 17 p (nI (p + 1))).1 k j' = T4.1 k j' := fun k j' b1 b2 b3 b4 => by
          rw [rdI, if_neg b4, n5 k j' b1 b2 b3]
        have u17 : (sI T5 17 p (nI (p + 1))).1 17 p = nI (p + 1) := sI_v
        have rx6 : cRX (sI T5 17 p (nI (p + 1))) (RcG X (sI T5 17 p (nI (p + 1))) a) (p + 1) p5 := rx.ag (fun g j' b1 b2 b3 b4 _ => by rw [rdI, if_neg (fun w => by omega)])
        generalize sI T5 17 p (nI (p + 1)) = T6 at *
        have l6 := g6.2.1
        refine w_need (k := 45) hX g6 rfl (by omega) (by omega) (fun k2 => ?_) (fun k2 => ?_)
        · rw [if_pos k2]
          have h2 := K_lt hX k2 (by omega)
          have mv : ∀ g j', 11 ≤ g → g ≤ 18 → (cMv T6 (j + 1)).1 g j' = T6.1 g j' := fun g j' q1 q2 => by rw [cMv_o (by omega)]
          refine wp_some ⟨p5, g6.mv (by omega), by omega, by omega, by omega, rfl, f6.tr FC.mv, fun k j' b1 b2 b3 => ?_, ?_, ?_, ?_, ?_⟩
          · rw [mv k j' b1 b2, w6 k j' b1 b2 (by omega) (fun w => by omega), n4 k j' b1 b2 b3]
          · rw [mv 13 p (by omega) (by omega), w6 13 p (by omega) (by omega) (by omega) (by omega)]; exact v4.2.2.1
          · rw [mv 11 p (by omega) (by omega), w6 11 p (by omega) (by omega) (by omega) (by omega)]; exact v4.1
          · rw [mv 12 p (by omega) (by omega), w6 12 p (by omega) (by omega) (by omega) (by omega)]; exact v4.2.1
          · rw [if_pos c4]
            exact ⟨by rw [mv 17 p (by omega) (by omega)]; exact u17, a2, rx6.ag (fun g j' q1 q2 _ _ _ => mv g j' q1 q2)⟩
        · rw [if_neg k2]
          exact wp_some ⟨g6.bd hX (by omega), f6.tr FC.bd, p, rfl, p8⟩
theorem zb_tl (h : Bd X T e) (hd : 1 ≤ d) (hn : 1 ≤ n) {x1 x2 x3 x4 : Int32} : rl_Parser_parseTerm_23 (PP nf d) nf n T x1 x2 x3 x4 = some (x2, 0, T) := by
  obtain ⟨d, rfl⟩ : ∃ g, d = g + 1 := ⟨d - 1, by omega⟩
  obtain ⟨n, rfl⟩ : ∃ g, n = g + 1 := ⟨n - 1, by omega⟩
  rw [rl_Parser_parseTerm_23]
  split
  · rfl
  · rw [h.lk, if_neg (by decide), if_neg (by decide), if_neg (by decide), if_neg (by decide)]
theorem lo_nz (h : q ≠ 0) (h2 : q < 100000) : ¬ nI q = 0 := fun w => h (nI_inj (b := 0) h2 (by omega) w)
/-- the loop over tails -/
theorem c_tls (hX : XO X) (hm : m ≤ 20) (hG : CPx nf X m) (hd : 8 * m + 14 ≤ d) : ∀ (f i q c fl : Nat) (T : gSt) (t : Tr) (z : Nat), f + i ≥ 4001 → c + 1 ≤ i → fl + c ≥ 4002 → GC X T i q → q ≤ i + 2 → lo < q → RcG X T t 0 lo q z → fnT T lo z → wp (rl_Parser_parseTerm_23 (PP nf d) nf fl T (nI (20 - m)) (nI lo) (nI z) (nI c)) (fun r _ T' => match pTails (xK X) (pEx (xK X) m) f t i with
    | .ok (t', j) => ∃ q', GC X T' j q' ∧ i ≤ j ∧ q ≤ q' ∧ q' + i ≤ q + j ∧ r = nI lo ∧ FC T T' ∧ Nf T T' lo ∧ T'.1 13 lo = T.1 13 lo ∧ T'.1 14 lo = T.1 14 lo ∧ T'.1 15 lo = T.1 15 lo ∧ cRT T' (RcG X T' t') lo q'
    | .error e => CxE X T e r T') := by
  intro f
  induction f with
  | zero =>
    intro i q c fl T t z h1 h2 h3 hg
    have := hg.2.1
    have := hX.1
    omega
  | succ f ih =>
    intro i q c fl T t z h1 h2 h3 hg hq hlo hr hfn
    have hxn := hX.1
    have hi0 := hg.2.1
    obtain ⟨fl, rfl⟩ : ∃ g, fl = g + 1 := ⟨fl - 1, by omega⟩
    have le := (Rc_le _ _ _ _ _ (by omega) hr).1 rfl
    have zl : inb (nI lo) 4008 := nin (by omega) (by omega)
    have cl : (nI lo).toNatClampNeg = lo := nc (by omega)
    have n4 : ¬ (4000 : Int32) ≤ nI c := fun w => by
      have := (nI_leI (a := 4000) (b := c) (by omega) (by omega)).mp w
      omega
    rw [rl_Parser_parseTerm_23, if_neg n4, pTails_s]
    have go : (xK X i = 49 ∨ xK X i = 33 ∨ xK X i = 61 ∨ xK X i = 44) → wp (rj_Parser_parseTerm_67 (PP nf d) nf (rl_Parser_parseTerm_23 (PP nf d) nf fl) T (nI (20 - m)) (nI lo) (nI z) (nI c)) (fun r _ T' => match eb (pTl (xK X) (pEx (xK X) m) i) fun a j => pTails (xK X) (pEx (xK X) m) f (tlT (xK X i) i t a) j with
        | .ok (t', j) => ∃ q', GC X T' j q' ∧ i ≤ j ∧ q ≤ q' ∧ q' + i ≤ q + j ∧ r = nI lo ∧ FC T T' ∧ Nf T T' lo ∧ T'.1 13 lo = T.1 13 lo ∧ T'.1 14 lo = T.1 14 lo ∧ T'.1 15 lo = T.1 15 lo ∧ cRT T' (RcG X T' t') lo q'
        | .error e => CxE X T e r T') := by
      intro hk
      unfold rj_Parser_parseTerm_67
      refine wp_bi (c_tail hX hm hG hg hq hk hd) ?_
      intro r _ T2 h2'
      generalize pTl (xK X) (pEx (xK X) m) i = res at *
      cases res with
      | error e =>
        obtain ⟨b5, f5, xr, er, hxr⟩ := h2'
        dsimp only [eb]
        by_cases c0 : z = 0
        · rw [if_pos (show nI z = 0 by rw [c0]; rfl), gd, if_pos zl, cl, stK, vK]
          rw [zb_tl (b5.wr (by omega)) (by omega) (by omega)]
          exact wp_some ⟨b5.wr (by omega), f5.tr (FC.wr (by omega)), lo, rfl, by omega⟩
        · rw [if_neg (lo_nz c0 (by omega)), gd, if_pos (nin (by omega) (by omega)), stK, vK]
          rw [zb_tl (b5.wr (by omega)) (by omega) (by omega)]
          exact wp_some ⟨b5.wr (by omega), f5.tr (FC.wr (by omega)), lo, rfl, by omega⟩
      | ok y =>
        obtain ⟨a, j⟩ := y
        obtain ⟨p2, g2, a1, a2, a3, rfl, f2, n2, v13, v11, v12, vx⟩ := h2'
        dsimp only [eb]
        have l2 := g2.2.1
        -- the link
        have key : ∀ (T3 : gSt), GC X T3 j p2 → FC T T3 → (∀ g j', 11 ≤ g → g ≤ 18 → lo ≤ j' → ¬ exC0 lo z g j' → T3.1 g j' = T2.1 g j') → Nf T T3 lo → lkT T3 lo z q → (∀ g, g = 13 ∨ g = 14 ∨ g = 15 → T3.1 g lo = T.1 g lo) → wp (rl_Parser_parseTerm_23 (PP nf d) nf fl T3 (nI (20 - m)) (nI lo) (nI q) (nI c + 1)) (fun r _ T' => match pTails (xK X) (pEx (xK X) m) f (tlT (xK X i) i t a) j with
            | .ok (t', j) => ∃ q', GC X T' j q' ∧ i ≤ j ∧ q ≤ q' ∧ q' + i ≤ q + j ∧ r = nI lo ∧ FC T T' ∧ Nf T T' lo ∧ T'.1 13 lo = T.1 13 lo ∧ T'.1 14 lo = T.1 14 lo ∧ T'.1 15 lo = T.1 15 lo ∧ cRT T' (RcG X T' t') lo q'
            | .error e => CxE X T e r T') := by
          intro T3 g3 f3 o3 n3 lk v3
          have r3 : RcG X T3 t 0 lo q z := RcG.ag t 0 _ _ _ (by omega) hr (fun g j' b1 b2 b3 b4 b5 => by
            rw [o3 g j' b1 b2 b3 (fun w => b5 (Or.inl ⟨rfl, w⟩)), n2 g j' b1 b2 b4])
          have oq : ∀ g, 11 ≤ g → g ≤ 18 → T3.1 g q = T2.1 g q := fun g b1 b2 => o3 g q b1 b2 (by omega) (by unfold exC0; omega)
          have t3 : RcG X T3 (tlT (xK X i) i t a) 0 lo p2 q := by
            unfold tlT
            by_cases c4 : xK X i = 44
            · rw [if_pos c4] at vx ⊢
              refine ⟨hlo, by omega, ⟨z, r3, lk⟩, ?_, ?_, ?_, ?_⟩
              · rw [oq 11 (by omega) (by omega), v11, c4]; rfl
              · rw [oq 12 (by omega) (by omega), v12]
              · rw [oq 17 (by omega) (by omega), vx.1]
              · exact vx.2.2.ag (fun g j' b1 b2 b3 b4 b5 => o3 g j' b1 b2 (by omega) (by unfold exC0; omega))
            · rw [if_neg c4] at vx ⊢
              refine ⟨hlo, by omega, ⟨z, r3, lk⟩, ?_, ?_⟩
              · rw [oq 11 (by omega) (by omega), v11]
              · rw [oq 12 (by omega) (by omega), v12]
          have fn3 : fnT T3 lo q := by
            unfold fnT
            rw [if_neg (by omega), oq 13 (by omega) (by omega)]
            exact v13
          rw [nI_1]
          refine wp_mono (ih j p2 (c + 1) fl T3 _ q (by omega) (by omega) (by omega) g3 (by omega) (by omega) t3 fn3) ?_
          intro r _ T4 h4
          generalize pTails (xK X) (pEx (xK X) m) f (tlT (xK X i) i t a) j = res at *
          cases res with
          | error e => exact ⟨h4.1, f3.tr h4.2.1, h4.2.2⟩
          | ok y =>
            obtain ⟨t', j2⟩ := y
            obtain ⟨q', g4, b1, b2, b3, b4, f4, n4, w13, w14, w15, rt⟩ := h4
            exact ⟨q', g4, by omega, by omega, by omega, b4, f3.tr f4, n3.tr n4, by rw [w13]; exact v3 13 (by omega), by rw [w14]; exact v3 14 (by omega), by rw [w15]; exact v3 15 (by omega), rt⟩
        by_cases c0 : z = 0
        · rw [if_pos (show nI z = 0 by rw [c0]; rfl), gd, if_pos zl, cl, stK, vK]
          refine key _ (g2.wr (by omega)) (f2.tr (FC.wr (by omega))) ?_ ?_ ?_ ?_
          · intro g j' b1 b2 b3 b4
            rw [rdI, if_neg (fun w => b4 (by unfold exC0; omega))]
          · intro g j' b1 b2 b3
            rw [rdI, if_neg (fun w => by omega), n2 g j' b1 b2 (by omega)]
          · unfold lkT
            rw [if_pos c0, sI_v]
          · intro g hg'
            rw [rdI, if_neg (fun w => by omega), n2 g lo (by omega) (by omega) (by omega)]
        · rw [if_neg (lo_nz c0 (by omega)), gd, if_pos (nin (by omega) (by omega)), nc (by omega), stK, vK]
          refine key _ (g2.wr (by omega)) (f2.tr (FC.wr (by omega))) ?_ ?_ ?_ ?_
          · intro g j' b1 b2 b3 b4
            rw [rdI, if_neg (fun w => b4 (by unfold exC0; omega))]
          · intro g j' b1 b2 b3
            rw [rdI, if_neg (fun w => by omega), n2 g j' b1 b2 (by omega)]
          · unfold lkT
            rw [if_neg c0, sI_v]
          · intro g hg'
            rw [rdI, if_neg (fun w => by omega), n2 g lo (by omega) (by omega) (by omega)]
    refine w_sees (k := 49) hX hg rfl (by omega) (fun k1 => ?_) (fun k1 => ?_)
    · rw [if_pos (show xK X i = 49 ∨ xK X i = 33 ∨ xK X i = 61 ∨ xK X i = 44 by omega)]
      exact go (by omega)
    refine w_sees (k := 44) hX hg rfl (by omega) (fun k2 => ?_) (fun k2 => ?_)
    · rw [if_pos (show xK X i = 49 ∨ xK X i = 33 ∨ xK X i = 61 ∨ xK X i = 44 by omega)]
      exact go (by omega)
    refine w_sees (k := 61) hX hg rfl (by omega) (fun k3 => ?_) (fun k3 => ?_)
    · rw [if_pos (show xK X i = 49 ∨ xK X i = 33 ∨ xK X i = 61 ∨ xK X i = 44 by omega)]
      exact go (by omega)
    refine w_sees (k := 33) hX hg rfl (by omega) (fun k4 => ?_) (fun k4 => ?_)
    · rw [if_pos (show xK X i = 49 ∨ xK X i = 33 ∨ xK X i = 61 ∨ xK X i = 44 by omega)]
      exact go (by omega)
    rw [if_neg (show ¬ (xK X i = 49 ∨ xK X i = 33 ∨ xK X i = 61 ∨ xK X i = 44) by omega)]
    exact wp_some ⟨q, hg, by omega, by omega, by omega, rfl, FC.rf, Nf.rf, rfl, rfl, rfl, z, hr, hfn⟩
/-- a TERM at depth 20 - m -/
theorem c_term (hX : XO X) (hnf : 5000 ≤ nf) (hm : m ≤ 19) (hG : CPx nf X m) (hg : GC X T i p) (hp : p ≤ i + 2) (hd : 8 * m + 17 ≤ d) (hd2 : 8 * m + 19 ≤ d) : wp (PP nf d 80 T [nI (20 - m)] []) (fun r _ T' => CxQ X T i p 1 (pTerm (xK X) (pEx (xK X) m) i) r T') := by
  obtain ⟨d, rfl⟩ : ∃ g, d = g + 1 := ⟨d - 1, by omega⟩
  rw [e_Parser_parseTerm]
  unfold rb_Parser_parseTerm pTerm
  rw [if_pos (show nI (20 - m) ≤ 20 from (nI_leI (a := 20 - m) (b := 20) (by omega) (by omega)).mpr (by omega))]
  refine wp_bi (c_prim hX (by omega) (by omega) hG hg hp (by omega)) ?_
  intro r _ T2 h2
  generalize pPrim (xK X) (pEx (xK X) m) i = res at *
  cases res with
  | error e =>
    obtain ⟨b5, f5, xr, er, hxr⟩ := h2
    rw [zb_tl b5 (by omega) (by omega)]
    exact wp_some ⟨b5, f5, xr, er, hxr⟩
  | ok y =>
    obtain ⟨t, j⟩ := y
    obtain ⟨p2, g2, a1, a2, a3, rfl, f2, n2, v13, v14, v15, v18, rx⟩ := h2
    dsimp only [eb]
    have fn : fnT T2 p 0 := by unfold fnT; rw [if_pos rfl]; exact v18
    refine wp_mono (c_tls (lo := p) (d := d) hX (by omega) hG (by omega) 4001 j p2 0 nf T2 t 0 (by omega) (by omega) (by omega) g2 (by omega) a2 rx fn) ?_
    intro r _ T4 h4
    generalize pTails (xK X) (pEx (xK X) m) 4001 t j = res at *
    cases res with
    | error e => exact ⟨h4.1, f2.tr h4.2.1, h4.2.2⟩
    | ok y =>
      obtain ⟨t', j2⟩ := y
      obtain ⟨q', g4, b1, b2, b3, b4, f4, n4, w13, w14, w15, rt⟩ := h4
      refine ⟨q', g4, by omega, by omega, by omega, b4, f2.tr f4, n2.tr n4, by rw [w14, v14], by rw [w15, v15], ?_⟩
      rw [if_neg (by omega)]
      exact ⟨by rw [w13, v13], rt⟩
end CXT
