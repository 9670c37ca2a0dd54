/-! the class checks fields and parameters as the reference does -/
section CPR4
variable {S S' T T' T1 : gSt} {X : Lx} {nf d i n t c fl y j : Nat} {l : List Nat}
theorem lvC_2 (h : T'.2 = T.2) : ∀ n, lvC T' n = lvC T n := by
  intro n
  induction n with
  | zero => rfl
  | succ n ih =>
    rw [lvC, lvC, ih]
    have e1 : SW T' = SW T := SW_2 (by rw [h])
    have e2 : EW T' = EW T := by unfold EW; rw [h]
    rw [e1, e2]
theorem fd_24 : ∀ (m j : Nat) (S : gSt) (q : Nat), q < c + j → (fdL X c l m j S).1 24 q = S.1 24 q := by
  intro m
  induction m with
  | zero => intro j S q _; rfl
  | succ m ih =>
    intro j S q hq
    rw [fdL]
    split
    · rw [ih (j + 1) _ q (by omega)]
      unfold fdS
      rw [rdI, if_neg (fun w => by omega), (FE.me (X := X) 6 _ _).1 24 (by omega)]
      unfold fdN
      split
      · rfl
      · rw [flT_o (by omega) (by omega)]
    · rfl
theorem fd_tr : ∀ (m j : Nat) (S : gSt), Trw S (fdL X c l m j S) := by
  intro m
  induction m with
  | zero => intro j S; exact Trw.rf
  | succ m ih =>
    intro j S
    rw [fdL]
    split
    · refine Trw.tr ?_ (ih (j + 1) _)
      unfold fdS
      refine Trw.tr (Trw.tr ?_ (FE.me (X := X) 6 _ _).2.2.1) (Trw.wr (by omega))
      unfold fdN
      split
      · exact Trw.rf
      · exact (FE.fl (by decide)).2.2.1
    · exact Trw.rf
theorem me_bad (h : ¬ S.1 7 0 = 0) : meX X 6 S i = (0, S) := by rw [meX, if_neg h]
theorem b_pl {x2 : Int32} (hX : XO X) (hnf : 16385 ≤ nf) (hz : ∀ q, xK X q = 4 → ¬ xN X q = 0) (ht : t < 24) (hd : 60 ≤ d) : ∀ (m k fl : Nat) (S T : gSt) (w3 w4 : Nat), m + k = l.length → m < fl → w3 + 3 * m < 1000 → w4 < 1000 → HrR R0 X S T → PrR X S T t c l → lvC T 16384 + 6 * m + 20 < 16384 → cn (fdL X c l m k S) < 6000 → wp (rl_Heads_checkParts_28 (PP nf d) nf fl T (nI t) x2 (nI w3) (nI w4) (nI k)) (fun _ _ T' => PbQ X S (fdL X c l m k S) T t c l.length k m w3 w4 x2 T') := by
  have hxn := hX.1
  have ct : (nI t).toNatClampNeg = t := nc (by omega)
  have zt : inb (nI t) 24 := nin ht (by omega)
  intro m
  induction m with
  | zero =>
    intro k fl S T w3 w4 e1 e2 e3 e4 hH hP hl hc
    obtain ⟨fl, rfl⟩ : ∃ g, fl = g + 1 := ⟨fl - 1, by omega⟩
    have h8 := hP.2.1
    have hW := hH.2.2.2.2.2.2
    rw [rl_Heads_checkParts_28]
    simp only [gd, if_pos zt, ct, hP.1]
    rw [if_pos (show nI l.length ≤ nI k from (nI_leI (by omega) (by omega)).mpr (by omega)), fdL]
    have fin : ∀ v : Int32, v = (if x2 = 0 then nI (w3 + plW (sI T 41 t v) t 0 k) else 1 + nI (mxW (sI T 41 t v) t 0 k w4)) → PbQ X S S T t c l.length k 0 w3 w4 x2 (sI T 41 t v) := by
      intro v hv
      have fp : FwP t T (sI T 41 t v) := FwP.wr hW (Or.inl ⟨rfl, rfl⟩)
      obtain ⟨a1, a2, a3, a4, a5, a6, a7⟩ := hH
      refine ⟨⟨fp, fun q _ => by rw [sI_ne (by omega)], fun q a b => by omega⟩, Or.inl ⟨⟨a1.fp fp, a2.st rfl rfl rfl (by rw [sI_ne (by omega)]) (fun _ => rfl), a3.st rfl rfl rfl rfl (fun k j h => by rw [sI_ne (by omega)]) (fun _ => rfl), a4, a5, by rw [sI_ne (by omega)]; exact a6, fp.2.2.1⟩, ⟨Nat.le_refl _, fun _ _ _ _ _ _ => rfl, rfl, rfl, fun _ _ _ => rfl⟩, fun q _ => by rw [sI_ne (by omega)], fun q a b => by omega, by rw [sI_v]; exact hv, ?_⟩⟩
      rw [lvC_2 (T := T) (T' := sI T 41 t v) rfl]
      omega
    by_cases cx : x2 = 0
    · rw [if_pos cx, stK]
      refine wp_some (fin _ ?_)
      rw [if_pos cx, plW, Nat.add_zero]
    · rw [if_neg cx, stK]
      refine wp_some (fin _ ?_)
      rw [if_neg cx, mxW]
  | succ m ih =>
    intro k fl S T w3 w4 e1 e2 e3 e4 hH hP hl hc
    obtain ⟨fl, rfl⟩ : ∃ g, fl = g + 1 := ⟨fl - 1, by omega⟩
    have h8 := hP.2.1
    have hH' := hH
    obtain ⟨a1, a2, a3, a4, a5, a6, a7⟩ := hH
    obtain ⟨j1, j2, j3, j4, j5⟩ := hP.2.2 k (by omega)
    have hWP := hP.wp
    obtain ⟨d1, hd1⟩ : ∃ g, d = g + 1 := ⟨d - 1, by omega⟩
    rw [fdL, if_pos a5] at hc ⊢
    generalize hj : l.getD k 0 = j at *
    have nmA : PP nf d 27 T [nI j] [] = some (0, xN X j, T) := by rw [hd1]; exact c_name hX a1 j2
    have stA : PP nf d 26 T [nI j] [] = some (nI (xP X j), 0, T) := by rw [hd1]; exact c_start hX a1 (by omega)
    rw [rl_Heads_checkParts_28]
    simp only [gd, if_pos zt, ct, hP.1]
    rw [if_neg (fun w => by
      have := (nI_leI (by omega) (by omega)).mp w
      omega), c_tokOf ht (by omega) (by omega), bis, j1, nmA, bis, c_findPart hX (by omega) a1 ht hWP (by omega), bis, hP.find hX]
    by_cases cf : ff (isFi S c (xN X j)) 0 l.length = nI k
    · rw [if_pos cf]
      have eN : fdN c l.length (xN X j) k (nI (xP X j)) S = S := by unfold fdN; rw [if_pos cf]
      have eS : fdS X c l.length j k S = sI (meX X 6 S (j + 2)).2 24 (c + k) (meX X 6 S (j + 2)).1 := by unfold fdS; rw [eN]
      rw [eS] at hc ⊢
      have tg1 : Tg (meX X 6 S (j + 2)).2 := (FE.me 6 S (j + 2)).tg a4
      have tg2 : Tg (sI (meX X 6 S (j + 2)).2 24 (c + k) (meX X 6 S (j + 2)).1) := (Trw.wr (by omega) tg1).1
      have hc1 : cn (meX X 6 S (j + 2)).2 < 6000 := by
        have := (fd_tr (X := X) (c := c) (l := l) m (k + 1) _ tg2).2.1
        rw [cn_w (by omega)] at this
        omega
      unfold rj_Heads_checkParts_90
      rw [show nI j + 2 = nI (j + 2) from (Int32.ofNat_add j 2).symm]
      obtain ⟨y, T2, y1, y2, y3, y4⟩ := hH'.ty (nf := nf) (d := d) (f := 5) (dp := 1) hX hnf hz ⟨rfl, by omega⟩ j4 j5 (by omega) (by omega) (by omega) hc1 (by omega)
      rw [show PP nf d 137 T [nI (j + 2), 1] [] = _ from y1, bis]
      have yl := y2.lt
      rcases y4 with ⟨b1, b2, b3, b4, b5⟩ | hB
      · have wdl := wd3 (T := T2) (y := y)
        generalize hS2 : (meX X 6 S (j + 2)).2 = S2 at *
        generalize hx : (meX X 6 S (j + 2)).1 = x at *
        -- the rest of the loop
        have fin : ∀ pl : Int32, pl = (if x2 = 0 then nI w3 else 1) → wp (rj_Heads_checkParts_119 (PP nf d) nf (rl_Heads_checkParts_28 (PP nf d) nf fl) T2 (nI t) x2 (nI w3) (nI w4) (nI k) (nI y) pl (nI y) (nI k) (nI t)) (fun _ _ T' => PbQ X S (fdL X c l m (k + 1) (sI S2 24 (c + k) x)) T t c l.length k (m + 1) w3 w4 x2 T') := by
          intro pl hpl
          unfold rj_Heads_checkParts_119
          rw [c_setPart ht (by omega) (by omega), bis, c_wordsOf (by omega) (by omega), bis, vK, c_wordsOf (by omega) (by omega), bis, vK, vK, nI_1]
          have f3 : FwP t T2 (sI (sI T2 44 (8 * t + k) (nI y)) 45 (8 * t + k) pl) := (FwP.wr y3.2.2.1 (Or.inr ⟨Or.inl rfl, by omega, by omega⟩)).tr (FwP.wr (FwP.wr (t := t) (x := nI y) y3.2.2.1 (Or.inr ⟨Or.inl rfl, by omega, by omega⟩)).2.2.1 (Or.inr ⟨Or.inr rfl, by omega, by omega⟩))
          have v44 : (sI (sI T2 44 (8 * t + k) (nI y)) 45 (8 * t + k) pl).1 44 (8 * t + k) = nI y := by rw [sI_ne (by omega), sI_v]
          have v45 : (sI (sI T2 44 (8 * t + k) (nI y)) 45 (8 * t + k) pl).1 45 (8 * t + k) = pl := sI_v
          have o44 : ∀ q, q ≠ 8 * t + k → (sI (sI T2 44 (8 * t + k) (nI y)) 45 (8 * t + k) pl).1 44 q = T2.1 44 q := fun q hq => by rw [sI_ne (by omega), rdI, if_neg (fun w => hq w.2)]
          have o45 : ∀ q, q ≠ 8 * t + k → (sI (sI T2 44 (8 * t + k) (nI y)) 45 (8 * t + k) pl).1 45 q = T2.1 45 q := fun q hq => by rw [rdI, if_neg (fun w => hq w.2), sI_ne (by omega)]
          have oo : ∀ g q, g ≠ 44 → g ≠ 45 → (sI (sI T2 44 (8 * t + k) (nI y)) 45 (8 * t + k) pl).1 g q = T2.1 g q := fun g q h1 h2 => by rw [sI_ne h2, sI_ne h1]
          have e2' : (sI (sI T2 44 (8 * t + k) (nI y)) 45 (8 * t + k) pl).2 = T2.2 := rfl
          have ewd : wdC (sI (sI T2 44 (8 * t + k) (nI y)) 45 (8 * t + k) pl) y = wdC T2 y := rfl
          rw [ewd]
          generalize sI (sI T2 44 (8 * t + k) (nI y)) 45 (8 * t + k) pl = T3 at *
          rw [show nI w3 + nI (wdC T2 y) = nI (w3 + wdC T2 y) from (Int32.ofNat_add _ _).symm, max_i (by omega) (by omega)]
          obtain ⟨c1, c2, c3, c4, c5, c6, c7⟩ := b1
          have h3 : HrR R0 X (sI S2 24 (c + k) x) T3 := ⟨c1.fp f3, c2.st (by rw [sI_ne (by omega)]) rfl (by rw [sI_ne (by omega)]) (oo 72 0 (by omega) (by omega)) (fun q => by rw [e2']), c3.st (by rw [sI_ne (by omega)]) (by rw [sI_ne (by omega)]) rfl (by rw [sI_ne (by omega)]) (fun g q h => oo g q (by omega) (by omega)) (fun q => by rw [e2']), tg2, by rw [sI_ne (by omega)]; exact c5, by rw [oo 53 0 (by omega) (by omega)]; exact c6, f3.2.2.1⟩
          have s21 : (meX X 6 S (j + 2)).2.2 = S.2 := (FE.me 6 S (j + 2)).2.1
          rw [hS2] at s21
          have hP3 : PrR X (sI S2 24 (c + k) x) T3 t c l := hP.st (by show S2.2 21 = S.2 21; rw [s21]) (fun g q h => by rw [oo g q (by omega) (by omega), b2])
          have t23 : TyF S2 (sI S2 24 (c + k) x) T2 T3 := ⟨by rw [cn_w (by omega)]; exact Nat.le_refl _, fun p g _ _ h1 h2 => by rw [sI_ne (by omega)], by rw [sI_ne (by omega)], by unfold EW; rw [e2'], fun q _ _ => by rw [e2']⟩
          have lv3 : lvC T3 16384 = lvC T2 16384 := lvC_2 e2' 16384
          refine wp_mono (ih (k + 1) fl _ T3 (w3 + wdC T2 y) (max w4 (wdC T2 y)) (by omega) (by omega) (by omega) (by omega) h3 hP3 (by omega) hc) ?_
          intro _ _ T' ⟨⟨p1, p2, p3⟩, p4⟩
          have fTT : FwP t T T' := (y3.fp.tr f3).tr p1
          have pa : PaQ T t l.length k T' := ⟨fTT, fun q hq => by rw [p2 q (by omega), o44 _ (by omega), y3.1 44 (by omega) (by omega)], fun q h1 h2 => by
            by_cases c : q = k
            · rw [c, p2 k (by omega), v44]
              exact ⟨y, rfl, p1.2.2.2.1 _ (f3.2.2.2.1 _ y2)⟩
            · exact p3 q (by omega) h2⟩
          refine ⟨pa, ?_⟩
          rcases p4 with ⟨q1, q2, q3, q4, q5, q6⟩ | hB
          · have F2 := t23.tr q2
            have k44 : T'.1 44 (8 * t + k) = nI y := by rw [p2 k (by omega), v44]
            have wdT : wdC T' y = wdC T2 y := b3.wd F2
            have stp : ∀ m', plW T' t (m' + 1) k = wdC T2 y + plW T' t m' (k + 1) := fun m' => by rw [plW, k44, nc (by omega), wdT]
            have stm : mxW T' t (m + 1) k w4 = mxW T' t m (k + 1) (max w4 (wdC T2 y)) := by rw [mxW, k44, nc (by omega), wdT]
            refine Or.inl ⟨q1, b4.tr F2, fun q hq => by rw [q3 q (by omega), o45 _ (by omega), y3.1 45 (by omega) (by omega)], fun q h1 h2 => ?_, ?_, by omega⟩
            · by_cases c : q = k
              · subst c
                refine ⟨y, k44, yl, ?_, ?_⟩
                · rw [fd_24 m (q + 1) _ (c + q) (by omega), sI_v]
                  exact TyR.mo F2 (fun _ _ h => h) 5 x y b3
                · rw [q3 q (by omega), v45, hpl, Nat.sub_self, plW, Nat.add_zero]
              · obtain ⟨y', r1, r2, r3, r4⟩ := q4 q (by omega) h2
                refine ⟨y', r1, r2, r3, ?_⟩
                rw [r4, show q - k = (q - (k + 1)) + 1 by omega, stp, show w3 + wdC T2 y + plW T' t (q - (k + 1)) (k + 1) = w3 + (wdC T2 y + plW T' t (q - (k + 1)) (k + 1)) by omega]
            · rw [q5, stp, stm, show w3 + wdC T2 y + plW T' t m (k + 1) = w3 + (wdC T2 y + plW T' t m (k + 1)) by omega]
          · exact Or.inr hB
        by_cases cx : x2 = 0
        · rw [if_pos cx]
          exact fin _ (by rw [if_pos cx])
        · rw [if_neg cx]
          exact fin _ (by rw [if_neg cx])
      · have b24 : BfR (sI (meX X 6 S (j + 2)).2 24 (c + k) (meX X 6 S (j + 2)).1) T2 := by
          unfold BfR
          rw [sI_ne (by omega), sI_ne (by omega)]
          exact hB
        rw [fd_bad m (k + 1) _ b24.1]
        have fin : ∀ pl, wp (rj_Heads_checkParts_119 (PP nf d) nf (rl_Heads_checkParts_28 (PP nf d) nf fl) T2 (nI t) x2 (nI w3) (nI w4) (nI k) (nI y) pl (nI y) (nI k) (nI t)) (fun _ _ T' => PbQ X S (sI (meX X 6 S (j + 2)).2 24 (c + k) (meX X 6 S (j + 2)).1) T t c l.length k (m + 1) w3 w4 x2 T') := fun pl => by
          refine wp_mono (a_119 (m := m) (n := l.length) hX hnf ht (by omega) (by omega) (by omega) (a1.fh y3) (a3.wi.fh y3) (a2.wr.fh y3) y3.2.2.1 (hWP.fp y3.fp (t := t)) y2) ?_
          intro _ _ T' ⟨p1, p2, p3⟩
          exact ⟨⟨y3.fp.tr p1, fun q hq => by rw [p2 q hq, y3.1 44 (by omega) (by omega)], p3⟩, Or.inr (b24.fp p1)⟩
        split
        · exact fin _
        · exact fin _
    · rw [if_neg cf, stA, bis, c_note (by omega), bis]
      have eN : fdN c l.length (xN X j) k (nI (xP X j)) S = flT S 2 (nI (xP X j)) := by unfold fdN; rw [if_neg cf]
      have bf : BfR (flT S 2 (nI (xP X j))) (ntS T 2 (nI (xP X j))) := bf_nt a5 a6 (by decide)
      have eS : fdS X c l.length j k S = sI (flT S 2 (nI (xP X j))) 24 (c + k) 0 := by
        unfold fdS
        rw [eN, me_bad bf.1]
      have b24 : BfR (sI (flT S 2 (nI (xP X j))) 24 (c + k) 0) (ntS T 2 (nI (xP X j))) := by
        unfold BfR
        rw [sI_ne (by omega), sI_ne (by omega)]
        exact bf
      rw [eS, fd_bad m (k + 1) _ b24.1]
      have f1 : FwH T (ntS T 2 (nI (xP X j))) := FwH.nt a7
      refine wp_mono (a_90 (m := m) (n := l.length) hX hnf ht (by omega) (by omega) (by omega) (a1.fh f1) (a3.wi.fh f1) (a2.wr.fh f1) f1.2.2.1 (hWP.fp f1.fp (t := t)) j2) ?_
      intro _ _ T' ⟨p1, p2, p3⟩
      exact ⟨⟨f1.fp.tr p1, fun q hq => by rw [p2 q hq, f1.1 44 (by omega) (by omega)], p3⟩, Or.inr (b24.fp p1)⟩
end CPR4
