/-! the code of STEPS, kind by kind -/
section LTT
variable {nf d : Nat} {T T' T1 Tf S : gSt} {X : Lx} {it n n' m k p p' q u lo hi a b c s i e v g v' g' : Nat} {x y z ty tl ys no : Int32} {j : Nat} {l : T5} {js ks l0 l2 : List T5} {t ta tb : Tr} {Q : Int32 → Int64 → gSt → Prop}
theorem AnE_x {R : ChR} (h : AnE X T t lo hi x R.1 R.2.1 R.2.2.1) (hw : Wf X t false a b) : ∃ m, x = nI m ∧ lo ≤ m ∧ m < hi ∧ T.1 60 m = R.1 := AnE_ty _ _ _ _ _ _ _ _ _ h hw
theorem lt_20 (hX : xn X ≤ 4000) (hnf : 8300 ≤ nf) (hcf : cn Tf < 6000) (hw : Ws X (tD 20 i e ta tb) 0 a b v g v' g') (hb : b ≤ xn X) (hH : LtH X it Tf T (tD 20 i e ta tb) p p' lo hi x ys no j S) (hP : LyP T 0 n) (hn : n + 3 * cws X (tD 20 i e ta tb) ≤ 12000) (hd : 2 * bdT (tD 20 i e ta tb) + 301 ≤ d) : wp (RR nf d 100 T [x] []) (fun _ _ T' => LtQ X it (tD 20 i e ta tb) ys no S n T T') := by
  obtain ⟨hA1, hN, hhi, hG, hE⟩ := hH
  replace hG := hG.2.2.2
  rw [Ws_n] at hw
  obtain ⟨d, rfl⟩ : ∃ g, d = g + 2 := ⟨d - 2, by omega⟩
  obtain ⟨w1, w2, w3, w4, w5, w6, w7⟩ : i = a ∧ e = v ∧ v < 20 ∧ v' = v + 1 ∧ g' = g ∧ tyW X 6 (i + 3) ∧ (if isZ ta = true then tyE X 6 (i + 3) < b else ∃ c, (Wf X ta false (tyE X 6 (i + 3) + 1) c ∧ dpT ta ≤ 40) ∧ c < b) := hw
  obtain ⟨rfl, h2, h3, h4⟩ : x = nI lo ∧ lo < hi ∧ T.1 61 lo = nI e ∧ (if isZ ta = true then T.1 52 lo = -1 else AnE X T ta (lo + 1) hi (T.1 52 lo) (vaR X ta (vaM X S i).2).1 (vaR X ta (vaM X S i).2).2.1 (vaR X ta (vaM X S i).2).2.2.1) := hA1
  obtain ⟨m, m1, m2, h50, h51, _⟩ : ∃ m, m < 8200 ∧ nI lo = nI m ∧ T.1 50 m = 20 ∧ T.1 51 m = nI (xP X i) ∧ True := hN
  obtain rfl : lo = m := nI_inj (by omega) (by omega) m2
  replace hG : isZ ta = true ∨ GE X Tf ta (vaM X S i).2 := hG
  have hc1 : cws X (tD 20 i e ta tb) = (tyE X 6 (i + 3) - (i + 3)) + (if isZ ta = true then 4 else cw X ta + 5) := rfl
  have zm : inb (nI lo) 8200 := nin (by omega) (by omega)
  have cm : (nI lo).toNatClampNeg = lo := nc (by omega)
  have cd : ∀ (T' : gSt) (n' : Nat), n < n' → rwC4 T' n = (0, nI (xP X i), 0, 0) → (if isZ ta = true then n' = n + 1 else ∃ m, ExC T' (vaR X ta (vaM X S i).2).2.2.1 (n + 1) m ∧ rwC4 T' m = (22, nI e, 0, 0) ∧ n' = m + 1) → CdS X it T' (tD 20 i e ta tb) ys no S n n' := fun T' n' a b c => ⟨a, b, c⟩
  by_cases z : isZ ta = true
  · rw [if_pos z] at hc1 h4
    refine ls_st (pl := nI (xP X i)) (by omega) h51 hP (by omega) ?_
    intro T2 f2 r2
    unfold lsR
    simp only [gd, if_pos zm, cm]
    rw [f2.o (k := 50) (by omega), h50, if_pos rfl]
    rw [f2.o (k := 52) (by omega), h4, if_neg (by decide)]
    refine wp_some ⟨n + 1, f2, by omega, cd _ _ (by omega) r2 ?_⟩
    rw [if_pos z]
  · rw [if_neg z] at hc1 h4 w7
    obtain ⟨c, w8, w9⟩ := w7
    have hG := hG.resolve_left z
    have ev : vaR X ta (vaM X S i).2 = chk X ta 0 0 (vaM X S i).2 := by unfold vaR; rw [if_neg z]
    rw [ev] at h4 cd
    obtain ⟨q, q1, q2, q3, q4⟩ := AnE_x h4 w8.1
    refine ls_st (pl := nI (xP X i)) (by omega) h51 hP (by omega) ?_
    intro T2 f2 r2
    unfold lsR
    simp only [gd, if_pos zm, cm]
    rw [f2.o (k := 50) (by omega), h50, if_pos rfl]
    obtain ⟨r, w, T3, e3, m3, f3, x3, l3⟩ := x_exC (d := d + 1) hX hnf hcf hG (h4.lf f2 w8.1 (by omega)) hhi w8.1 (by omega) (hE.lf f2) (hP.lf f2) (by omega) (by omega)
    rw [f2.o (k := 52) (by omega), q1, if_pos (nz2 (by omega)), ← q1, e3, bis, f3.o (k := 61) (by omega), f2.o (k := 61) (by omega), h3, x_lay f3.2.1 (by omega), bis]
    have f4 : LF T3 (ly T3 m3 22 (nI e) 0 0) m3 (m3 + 1) := LF.l1
    have := f3.1
    refine wp_some ⟨m3 + 1, (f2.tr f3).tr f4, by omega, cd _ _ (by omega) ?_ ?_⟩
    · rw [f4.rw (by omega), f3.rw (by omega)]; exact r2
    · rw [if_neg z]
      exact ⟨m3, x3.ag (AgR.lf f4 (Nat.le_refl _)) (Nat.le_refl _) (Nat.le_refl _), ly_row, rfl⟩
theorem lt_21 (hPB : LtP nf X it Tf tb) (hX : xn X ≤ 4000) (hnf : 8300 ≤ nf) (hcf : cn Tf < 6000) (hw : Ws X (tD 21 i e ta tb) 0 a b v g v' g') (hb : b ≤ xn X) (hH : LtH X it Tf T (tD 21 i e ta tb) p p' lo hi x ys no j S) (hP : LyP T 0 n) (hn : n + 3 * cws X (tD 21 i e ta tb) ≤ 12000) (hd : 2 * bdT (tD 21 i e ta tb) + 301 ≤ d) : wp (RR nf d 100 T [x] []) (fun _ _ T' => LtQ X it (tD 21 i e ta tb) ys no S n T T') := by
  obtain ⟨hA1, hN, hhi, hG, hE⟩ := hH
  replace hG := hG.2.2.2
  rw [Ws_n] at hw
  obtain ⟨d, rfl⟩ : ∃ g, d = g + 2 := ⟨d - 2, by omega⟩
  obtain ⟨w1, c, w2, w3⟩ : i = a ∧ ∃ c, (Wf X ta false (a + 1) c ∧ dpT ta ≤ 40) ∧ Ws X tb 3 c b v g v' g' := hw
  have mo := Ws_mo _ _ _ _ _ _ _ _ w3
  obtain ⟨rfl, c1, h2, h3, h4, h5⟩ : x = nI lo ∧ ∃ c, lo < c ∧ c ≤ hi ∧ AnE X T ta (lo + 1) c (T.1 52 lo) (chk X ta 0 0 S).1 (chk X ta 0 0 S).2.1 (chk X ta 0 0 S).2.2.1 ∧ AnS X it T tb lo c hi x (akY X ta (cdC X ta S)) (akN X ta (cdC X ta S)) (cdC X ta S) := hA1
  obtain ⟨m, m1, m2, h50, h51, hN⟩ : ∃ m, m < 8200 ∧ nI lo = nI m ∧ T.1 50 m = 21 ∧ T.1 51 m = nI (xP X i) ∧ NdS X T tb m (nI lo) := hN
  obtain rfl : lo = m := nI_inj (by omega) (by omega) m2
  obtain ⟨gE, gB⟩ : GE X Tf ta S ∧ Gk X it Tf tb (akY X ta (cdC X ta S)) (akN X ta (cdC X ta S)) i (cdC X ta S) := hG
  have hc1 : cws X (tD 21 i e ta tb) = cw X ta + cws X tb + 1 := rfl
  have hb1 : bdT (tD 21 i e ta tb) = bdT tb := rfl
  have zm : inb (nI lo) 8200 := nin (by omega) (by omega)
  have cm : (nI lo).toNatClampNeg = lo := nc (by omega)
  obtain ⟨q, q1, q2, q3, q4⟩ := AnE_x h4 w2.1
  have zq : inb (nI q) 8200 := nin (by omega) (by omega)
  have cq : (nI q).toNatClampNeg = q := nc (by omega)
  refine ls_st (pl := nI (xP X i)) (by omega) h51 hP (by omega) ?_
  intro T2 f2 r2
  unfold lsR
  simp only [gd, if_pos zm, cm]
  rw [f2.o (k := 50) (by omega), h50, if_neg (by decide), if_pos rfl]
  obtain ⟨r, w, T3, e3, m3, f3, x3, l3⟩ := x_exC (d := d + 1) hX hnf hcf gE (h4.lf f2 w2.1 (by omega)) (by omega) w2.1 (by omega) (hE.lf f2) (hP.lf f2) (by omega) (by omega)
  rw [f2.o (k := 52) (by omega), e3, bis, f3.o (k := 52) (by omega), f2.o (k := 52) (by omega), q1, if_pos zq, cq, f3.o (k := 60) (by omega), f2.o (k := 60) (by omega), q4]
  have l4 := f3.1
  have key : ∀ y0 : Int32, y0 = qK (chk X ta 0 0 S).1 → wp (rj_Model_layStep_145 (RR nf (d + 1)) nf T3 (nI lo) y0 0 26) (fun _ _ T' => LtQ X it (tD 21 i e ta tb) ys no S n T T') := by
    intro y0 hy
    unfold rj_Model_layStep_145
    rw [x_lay f3.2.1 (by omega), bis]
    show wp (lsP (RR nf (d + 1)) (ly T3 m3 26 0 y0 0) (nI lo) (nI m3)) _
    have f4 : LF T3 (ly T3 m3 26 0 y0 0) m3 (m3 + 1) := LF.l1
    have r4 : rwC4 (ly T3 m3 26 0 y0 0) m3 = (26, 0, y0, 0) := ly_row
    generalize ly T3 m3 26 0 y0 0 = T4 at *
    have f5 := (f2.tr f3).tr f4
    refine wp_mono (hPB T4 (d + 1) lo c1 hi (nI lo) (akY X ta (cdC X ta S)) (akN X ta (cdC X ta S)) i (cdC X ta S) m3 _ _ _ _ _ _ w3 hb ⟨h5.lf w3 hb f5, hN.lf f5, hhi, gB, hE.lf f5⟩ (by omega) (hP.lf f5) (by omega) (by omega)) ?_
    intro r v T' ⟨n', g1, g2, g3, ⟨g4, g5, g6⟩, g7⟩
    have f6 : LF T T' n n' := ⟨by omega, g1.2.1, fun k a b => (g1.2.2.1 k a b).trans (f5.2.2.1 k a b), g1.2.2.2.1.trans f5.2.2.2.1, fun k q a b c => (g1.2.2.2.2.1 k q a b (by omega)).trans (f5.2.2.2.2.1 k q a b c), fun j hj => (g1.2.2.2.2.2 j (by rw [f5.2.2.1 94 (by omega) (by omega)]; exact hj)).trans (f5.2.2.2.2.2 j hj)⟩
    refine ⟨n', f6, by omega, ?_⟩
    unfold rwC4 at r4
    simp only [Prod.mk.injEq] at r4
    have : n < n' ∧ rwC4 T' n = (0, nI (xP X i), 0, 0) ∧ ∃ m, ExC T' (chk X ta 0 0 S).2.2.1 (n + 1) m ∧ m < n' ∧ T'.1 96 m = 26 ∧ T'.1 98 m = qK (chk X ta 0 0 S).1 ∧ T'.1 99 m = 0 ∧ CdS X it T' tb (akY X ta (cdC X ta S)) (akN X ta (cdC X ta S)) (cdC X ta S) m n' := by
      refine ⟨by omega, ?_, m3, ?_, g2, g4.trans r4.1, (g5.trans r4.2.2.1).trans hy, g6.trans r4.2.2.2, g7⟩
      · rw [g1.rw (by omega), f4.rw (by omega), f3.rw (by omega)]; exact r2
      · exact (x3.ag (AgR.lf f4 (Nat.le_refl _)) (Nat.le_refl _) (Nat.le_refl _)).ag (AgR.lf g1 (Nat.le_refl _)) (Nat.le_refl _) (Nat.le_refl _)
    exact this
  by_cases c0 : (chk X ta 0 0 S).1 = 0
  · rw [if_pos c0]
    exact key 0 (by unfold qK; rw [if_pos c0])
  · rw [if_neg c0]
    exact key 1 (by unfold qK; rw [if_neg c0])
theorem lt_22 (hB : LtB nf X it Tf tb) (hX : xn X ≤ 4000) (hnf : 8300 ≤ nf) (hcf : cn Tf < 6000) (hw : Ws X (tD 22 i e ta tb) 0 a b v g v' g') (hb : b ≤ xn X) (hH : LtH X it Tf T (tD 22 i e ta tb) p p' lo hi x ys no j S) (hP : LyP T 0 n) (hn : n + 3 * cws X (tD 22 i e ta tb) ≤ 12000) (hd : 2 * bdT (tD 22 i e ta tb) + 301 ≤ d) : wp (RR nf d 100 T [x] []) (fun _ _ T' => LtQ X it (tD 22 i e ta tb) ys no S n T T') := by
  obtain ⟨hA1, hN, hhi, hG, hE⟩ := hH
  replace hG := hG.2.2.2
  rw [Ws_n] at hw
  obtain ⟨d, rfl⟩ : ∃ g, d = g + 2 := ⟨d - 2, by omega⟩
  obtain ⟨w1, c, w2, w3⟩ : i = a ∧ ∃ c, (Wf X ta false (a + 1) c ∧ dpT ta ≤ 40) ∧ Ws X tb 2 c b v g v' g' := hw
  have mo := Ws_mo _ _ _ _ _ _ _ _ w3
  obtain ⟨rfl, c1, h2, h3, h4, h5⟩ : x = nI lo ∧ ∃ c, lo < c ∧ c ≤ hi ∧ AnE X T ta (lo + 1) c (T.1 52 lo) (chk X ta 0 0 (whO X tb S)).1 (chk X ta 0 0 (whO X tb S)).2.1 (chk X ta 0 0 (whO X tb S)).2.2.1 ∧ AnS X it T tb c c hi (T.1 53 lo) 0 0 (kwS (cdC X ta (whO X tb S)) (akY X ta (cdC X ta (whO X tb S)))) := hA1
  obtain ⟨m, m1, m2, h50, h51, hN⟩ : ∃ m, m < 8200 ∧ nI lo = nI m ∧ T.1 50 m = 22 ∧ T.1 51 m = nI (xP X i) ∧ NdS X T tb m (T.1 53 m) := hN
  obtain rfl : lo = m := nI_inj (by omega) (by omega) m2
  obtain ⟨gE, gB⟩ : GE X Tf ta (whO X tb S) ∧ Gk X it Tf tb 0 0 0 (kwS (cdC X ta (whO X tb S)) (akY X ta (cdC X ta (whO X tb S)))) := hG
  have hc1 : cws X (tD 22 i e ta tb) = cw X ta + cws X tb + 1 := rfl
  have hb1 : bdT (tD 22 i e ta tb) = bdT tb := rfl
  have zm : inb (nI lo) 8200 := nin (by omega) (by omega)
  have cm : (nI lo).toNatClampNeg = lo := nc (by omega)
  obtain ⟨q, q1, q2, q3, q4⟩ := AnE_x h4 w2.1
  have zq : inb (nI q) 8200 := nin (by omega) (by omega)
  have cq : (nI q).toNatClampNeg = q := nc (by omega)
  refine ls_st (pl := nI (xP X i)) (by omega) h51 hP (by omega) ?_
  intro T2 f2 r2
  unfold lsR
  simp only [gd, if_pos zm, cm]
  rw [f2.o (k := 50) (by omega), h50, if_neg (by decide), if_neg (by decide), if_pos rfl]
  obtain ⟨r, w, T3, e3, m3, f3, x3, l3⟩ := x_exC (d := d + 1) hX hnf hcf gE (h4.lf f2 w2.1 (by omega)) (by omega) w2.1 (by omega) (hE.lf f2) (hP.lf f2) (by omega) (by omega)
  rw [f2.o (k := 52) (by omega), e3, bis, f3.o (k := 52) (by omega), f2.o (k := 52) (by omega), q1, if_pos zq, cq, f3.o (k := 60) (by omega), f2.o (k := 60) (by omega), q4]
  have l4 := f3.1
  have key : ∀ y0 : Int32, y0 = qK (chk X ta 0 0 (whO X tb S)).1 → wp (rj_Model_layStep_258 (RR nf (d + 1)) nf T3 (nI lo) (nI n) y0 0 26) (fun _ _ T' => LtQ X it (tD 22 i e ta tb) ys no S n T T') := by
    intro y0 hy
    have zr : inb (nI m3) 12000 := nin (by omega) (by omega)
    have cr : (nI m3).toNatClampNeg = m3 := nc (by omega)
    unfold rj_Model_layStep_258
    simp only [gd, if_pos zm, cm]
    rw [x_lay f3.2.1 (by omega), bis]
    have f4 : LF T3 (ly T3 m3 26 0 y0 0) m3 (m3 + 1) := LF.l1
    have r4 : rwC4 (ly T3 m3 26 0 y0 0) m3 = (26, 0, y0, 0) := ly_row
    generalize ly T3 m3 26 0 y0 0 = T4 at *
    have f5 := (f2.tr f3).tr f4
    obtain ⟨r', v2, T5, e5, m5, f6, l6, x6⟩ := hB T4 (d + 1) c1 lo c1 hi (T.1 53 lo) 0 0 0 (kwS (cdC X ta (whO X tb S)) (akY X ta (cdC X ta (whO X tb S)))) (m3 + 1) _ _ _ _ _ _ w3 hb ⟨h5.lf w3 hb f5, hN.lf f5, hhi, gB, hE.lf f5⟩ (hP.lf f5) (by omega) (by omega)
    have l7 := f6.1
    rw [f5.o (k := 53) (by omega), e5, bis, x_lay f6.2.1 (by omega), bis, if_pos zr, cr, stK]
    have f7 : LF T5 (ly T5 m5 27 (nI n) 0 0) m5 (m5 + 1) := LF.l1
    have r7 : rwC4 (ly T5 m5 27 (nI n) 0 0) m5 = (27, nI n, 0, 0) := ly_row
    rw [f7.2.1]
    generalize ly T5 m5 27 (nI n) 0 0 = T6 at *
    refine wp_some ⟨m5 + 1, ((f5.tr f6).tr f7).pt (by omega), by omega, ?_⟩
    have : n < m5 + 1 ∧ rwC4 (sI T6 97 m3 (nI (m5 + 1))) n = (0, nI (xP X i), 0, 0) ∧ ∃ m q, ExC (sI T6 97 m3 (nI (m5 + 1))) (chk X ta 0 0 (whO X tb S)).2.2.1 (n + 1) m ∧ m < q ∧ m5 + 1 = q + 1 ∧ rwC4 (sI T6 97 m3 (nI (m5 + 1))) m = (26, nI (m5 + 1), qK (chk X ta 0 0 (whO X tb S)).1, 0) ∧ rwC4 (sI T6 97 m3 (nI (m5 + 1))) q = (27, nI n, 0, 0) ∧ CdS X it (sI T6 97 m3 (nI (m5 + 1))) tb 0 0 (kwS (cdC X ta (whO X tb S)) (akY X ta (cdC X ta (whO X tb S)))) (m + 1) q := by
      refine ⟨by omega, ?_, m3, m5, ?_, by omega, rfl, ?_, ?_, ?_⟩
      · rw [(AgR.pt (a := n) (b := n + 1) (Or.inr (by omega))).rw (Nat.le_refl _) (by omega), f7.rw (by omega), f6.rw (by omega), f4.rw (by omega), f3.rw (by omega)]; exact r2
      · exact (((x3.ag (AgR.lf f4 (Nat.le_refl _)) (Nat.le_refl _) (Nat.le_refl _)).ag (AgR.lf f6 (by omega)) (Nat.le_refl _) (Nat.le_refl _)).ag (AgR.lf f7 (by omega)) (Nat.le_refl _) (Nat.le_refl _)).ag (AgR.pt (Or.inr (by omega))) (Nat.le_refl _) (Nat.le_refl _)
      · have r8 : rwC4 T6 m3 = (26, 0, y0, 0) := by rw [f7.rw (by omega), f6.rw (by omega)]; exact r4
        unfold rwC4 at r8 ⊢
        rw [sI_ne (g' := 96) (by omega), sI_ne (g' := 98) (by omega), sI_ne (g' := 99) (by omega), rdI, if_pos ⟨rfl, rfl⟩]
        simp only [Prod.mk.injEq] at r8 ⊢
        exact ⟨r8.1, trivial, r8.2.2.1.trans hy, r8.2.2.2⟩
      · rw [(AgR.pt (a := m5) (b := m5 + 1) (Or.inl (by omega))).rw (Nat.le_refl _) (by omega)]; exact r7
      · exact CdS.ag tb _ _ _ _ _ ((AgR.lf f7 (Nat.le_refl _)).tr (AgR.pt (Or.inl (by omega)))) x6
    exact this
  by_cases c0 : (chk X ta 0 0 (whO X tb S)).1 = 0
  · rw [if_pos c0]
    exact key 0 (by unfold qK; rw [if_pos c0])
  · rw [if_neg c0]
    exact key 1 (by unfold qK; rw [if_neg c0])
theorem lt_23 (hX : xn X ≤ 4000) (hnf : 8300 ≤ nf) (hcf : cn Tf < 6000) (hw : Ws X (tD 23 i e ta tb) 0 a b v g v' g') (hb : b ≤ xn X) (hH : LtH X it Tf T (tD 23 i e ta tb) p p' lo hi x ys no j S) (hP : LyP T 0 n) (hn : n + 3 * cws X (tD 23 i e ta tb) ≤ 12000) (hd : 2 * bdT (tD 23 i e ta tb) + 301 ≤ d) : wp (RR nf d 100 T [x] []) (fun _ _ T' => LtQ X it (tD 23 i e ta tb) ys no S n T T') := by
  obtain ⟨hA1, hN, hhi, hG, hE⟩ := hH
  replace hG := hG.2.2.2
  rw [Ws_n] at hw
  obtain ⟨d, rfl⟩ : ∃ g, d = g + 2 := ⟨d - 2, by omega⟩
  obtain ⟨w1, w2, w3, w7⟩ : i = a ∧ v' = v ∧ g' = g ∧ (if isZ ta = true then a + 1 < b else ∃ c, (Wf X ta false (a + 1) c ∧ dpT ta ≤ 40) ∧ c < b) := hw
  obtain ⟨rfl, h2, h4⟩ : x = nI lo ∧ lo < hi ∧ (if isZ ta = true then T.1 52 lo = -1 else AnE X T ta (lo + 1) hi (T.1 52 lo) (chk X ta 0 0 S).1 (chk X ta 0 0 S).2.1 (chk X ta 0 0 S).2.2.1) := hA1
  obtain ⟨m, m1, m2, h50, h51, _⟩ : ∃ m, m < 8200 ∧ nI lo = nI m ∧ T.1 50 m = 23 ∧ T.1 51 m = nI (xP X i) ∧ True := hN
  obtain rfl : lo = m := nI_inj (by omega) (by omega) m2
  replace hG : isZ ta = true ∨ GE X Tf ta S := hG
  have hc1 : cws X (tD 23 i e ta tb) = (if isZ ta = true then 2 else cw X ta + 2) := rfl
  have zm : inb (nI lo) 8200 := nin (by omega) (by omega)
  have cm : (nI lo).toNatClampNeg = lo := nc (by omega)
  have cd : ∀ (T' : gSt) (n' : Nat), n < n' → rwC4 T' n = (0, nI (xP X i), 0, 0) → (if isZ ta = true then rwC4 T' (n + 1) = (28, 0, 0, 0) ∧ n' = n + 2 else ∃ m, ExC T' (chk X ta 0 0 S).2.2.1 (n + 1) m ∧ rwC4 T' m = (28, 1, 0, 0) ∧ n' = m + 1) → CdS X it T' (tD 23 i e ta tb) ys no S n n' := fun T' n' a b c => ⟨a, b, c⟩
  by_cases z : isZ ta = true
  · rw [if_pos z] at hc1 h4
    refine ls_st (pl := nI (xP X i)) (by omega) h51 hP (by omega) ?_
    intro T2 f2 r2
    unfold lsR
    simp only [gd, if_pos zm, cm]
    rw [f2.o (k := 50) (by omega), h50, if_neg (by decide), if_neg (by decide), if_neg (by decide), if_pos rfl]
    unfold rj_Model_layStep_313
    simp only [gd, if_pos zm, cm]
    rw [f2.o (k := 52) (by omega), h4, if_pos (by decide), if_pos (by decide), x_lay f2.2.1 (by omega), bis]
    have f4 : LF T2 (ly T2 (n + 1) 28 0 0 0) (n + 1) (n + 1 + 1) := LF.l1
    refine wp_some ⟨n + 1 + 1, f2.tr f4, by omega, cd _ _ (by omega) ?_ ?_⟩
    · rw [f4.rw (by omega)]; exact r2
    · rw [if_pos z]
      exact ⟨ly_row, rfl⟩
  · rw [if_neg z] at hc1 h4 w7
    obtain ⟨c, w8, w9⟩ := w7
    have hG := hG.resolve_left z
    obtain ⟨q, q1, q2, q3, q4⟩ := AnE_x h4 w8.1
    refine ls_st (pl := nI (xP X i)) (by omega) h51 hP (by omega) ?_
    intro T2 f2 r2
    unfold lsR
    simp only [gd, if_pos zm, cm]
    rw [f2.o (k := 50) (by omega), h50, if_neg (by decide), if_neg (by decide), if_neg (by decide), if_pos rfl]
    obtain ⟨r, w, T3, e3, m3, f3, x3, l3⟩ := x_exC (d := d + 1) hX hnf hcf hG (h4.lf f2 w8.1 (by omega)) hhi w8.1 (by omega) (hE.lf f2) (hP.lf f2) (by omega) (by omega)
    rw [f2.o (k := 52) (by omega), q1, if_neg (nzI (by omega)), ← q1, e3, bis]
    unfold rj_Model_layStep_313
    simp only [gd, if_pos zm, cm]
    rw [f3.o (k := 52) (by omega), f2.o (k := 52) (by omega), q1, if_neg (nzI (by omega)), x_lay f3.2.1 (by omega), bis]
    have f4 : LF T3 (ly T3 m3 28 1 0 0) m3 (m3 + 1) := LF.l1
    have := f3.1
    refine wp_some ⟨m3 + 1, (f2.tr f3).tr f4, by omega, cd _ _ (by omega) ?_ ?_⟩
    · rw [f4.rw (by omega), f3.rw (by omega)]; exact r2
    · rw [if_neg z]
      exact ⟨m3, x3.ag (AgR.lf f4 (Nat.le_refl _)) (Nat.le_refl _) (Nat.le_refl _), ly_row, rfl⟩
theorem lt_24 (hX : xn X ≤ 4000) (hnf : 8300 ≤ nf) (hcf : cn Tf < 6000) (hw : Ws X (tD 24 i e ta tb) 0 a b v g v' g') (hb : b ≤ xn X) (hH : LtH X it Tf T (tD 24 i e ta tb) p p' lo hi x ys no j S) (hP : LyP T 0 n) (hn : n + 3 * cws X (tD 24 i e ta tb) ≤ 12000) (hd : 2 * bdT (tD 24 i e ta tb) + 301 ≤ d) : wp (RR nf d 100 T [x] []) (fun _ _ T' => LtQ X it (tD 24 i e ta tb) ys no S n T T') := by
  obtain ⟨hA1, hN, hhi, hG, hE⟩ := hH
  replace hG := hG.2.2.2
  rw [Ws_n] at hw
  obtain ⟨d, rfl⟩ : ∃ g, d = g + 2 := ⟨d - 2, by omega⟩
  obtain ⟨w1, w2, w3, c, w8, w9⟩ : i = a ∧ v' = v ∧ g' = g ∧ ∃ c, (Wf X ta false (a + 1) c ∧ dpT ta ≤ 40) ∧ c < b := hw
  obtain ⟨m, rfl, h2, h3, h4⟩ : ∃ m, x = nI m ∧ lo ≤ m ∧ hi = m + 1 ∧ AnE X T ta lo m (T.1 52 m) (chk X ta 0 0 S).1 (chk X ta 0 0 S).2.1 (chk X ta 0 0 S).2.2.1 := hA1
  obtain ⟨m', m1, m2, h50, h51, _⟩ : ∃ r, r < 8200 ∧ nI m = nI r ∧ T.1 50 r = 24 ∧ T.1 51 r = nI (xP X i) ∧ True := hN
  obtain rfl : m = m' := nI_inj (by omega) (by omega) m2
  replace hG : GE X Tf ta S := hG
  have hc1 : cws X (tD 24 i e ta tb) = cw X ta + 2 := rfl
  have zm : inb (nI m) 8200 := nin (by omega) (by omega)
  have cm : (nI m).toNatClampNeg = m := nc (by omega)
  have cd : ∀ (T' : gSt) (n' : Nat), n < n' → rwC4 T' n = (0, nI (xP X i), 0, 0) → (∃ m b, ExC T' (chk X ta 0 0 S).2.2.1 (n + 1) m ∧ rwC4 T' m = (29, b, 0, 0) ∧ n' = m + 1) → CdS X it T' (tD 24 i e ta tb) ys no S n n' := fun T' n' a b c => ⟨a, b, c⟩
  refine ls_st (pl := nI (xP X i)) (by omega) h51 hP (by omega) ?_
  intro T2 f2 r2
  unfold lsR
  simp only [gd, if_pos zm, cm]
  rw [f2.o (k := 50) (by omega), h50, if_neg (by decide), if_neg (by decide), if_neg (by decide), if_neg (by decide), if_pos rfl]
  unfold rj_Model_layStep_508
  simp only [gd, if_pos zm, cm]
  obtain ⟨r, w, T3, e3, m3, f3, x3, l3⟩ := x_exC (d := d + 1) hX hnf hcf hG (h4.lf f2 w8.1 (by omega)) (by omega) w8.1 (by omega) (hE.lf f2) (hP.lf f2) (by omega) (by omega)
  rw [f2.o (k := 52) (by omega), e3, bis, f3.o (k := 50) (by omega), f2.o (k := 50) (by omega), h50, if_pos rfl]
  unfold rj_Model_layStep_553
  rw [gd, if_pos zm, cm]
  have := f3.1
  have key : ∀ b : Int32, LtQ X it (tD 24 i e ta tb) ys no S n T (ly T3 m3 29 b 0 0) := by
    intro b
    have f4 : LF T3 (ly T3 m3 29 b 0 0) m3 (m3 + 1) := LF.l1
    refine ⟨m3 + 1, (f2.tr f3).tr f4, by omega, cd _ _ (by omega) ?_ ?_⟩
    · rw [f4.rw (by omega), f3.rw (by omega)]; exact r2
    · exact ⟨m3, b, x3.ag (AgR.lf f4 (Nat.le_refl _)) (Nat.le_refl _) (Nat.le_refl _), ly_row, rfl⟩
  by_cases c0 : T3.1 60 m = -1
  · rw [if_pos c0, x_lay f3.2.1 (by omega), bis]
    exact wp_some (key 0)
  · rw [if_neg c0, x_lay f3.2.1 (by omega), bis]
    exact wp_some (key 1)
theorem lt_25 (hX : xn X ≤ 4000) (hnf : 8300 ≤ nf) (hcf : cn Tf < 6000) (hw : Ws X (tD 25 i e ta tb) 0 a b v g v' g') (hb : b ≤ xn X) (hH : LtH X it Tf T (tD 25 i e ta tb) p p' lo hi x ys no j S) (hP : LyP T 0 n) (hn : n + 3 * cws X (tD 25 i e ta tb) ≤ 12000) (hd : 2 * bdT (tD 25 i e ta tb) + 301 ≤ d) : wp (RR nf d 100 T [x] []) (fun _ _ T' => LtQ X it (tD 25 i e ta tb) ys no S n T T') := by
  obtain ⟨hA1, hN, hhi, hG, hE⟩ := hH
  replace hG := hG.2.2.2
  rw [Ws_n] at hw
  obtain ⟨d, rfl⟩ : ∃ g, d = g + 2 := ⟨d - 2, by omega⟩
  obtain ⟨w1, w2, w3, c, w8, w9⟩ : i = a ∧ v' = v ∧ g' = g ∧ ∃ c, (Wf X ta false (a + 1) c ∧ dpT ta ≤ 40) ∧ c < b := hw
  obtain ⟨m, rfl, h2, h3, h4⟩ : ∃ m, x = nI m ∧ lo ≤ m ∧ hi = m + 1 ∧ AnE X T ta lo m (T.1 52 m) (chk X ta 0 0 S).1 (chk X ta 0 0 S).2.1 (chk X ta 0 0 S).2.2.1 := hA1
  obtain ⟨m', m1, m2, h50, h51, _⟩ : ∃ r, r < 8200 ∧ nI m = nI r ∧ T.1 50 r = 25 ∧ T.1 51 r = nI (xP X i) ∧ True := hN
  obtain rfl : m = m' := nI_inj (by omega) (by omega) m2
  replace hG : GE X Tf ta S := hG
  have hc1 : cws X (tD 25 i e ta tb) = cw X ta + 2 := rfl
  have zm : inb (nI m) 8200 := nin (by omega) (by omega)
  have cm : (nI m).toNatClampNeg = m := nc (by omega)
  have cd : ∀ (T' : gSt) (n' : Nat), n < n' → rwC4 T' n = (0, nI (xP X i), 0, 0) → (∃ m b, ExC T' (chk X ta 0 0 S).2.2.1 (n + 1) m ∧ rwC4 T' m = (30, b, 0, 0) ∧ n' = m + 1) → CdS X it T' (tD 25 i e ta tb) ys no S n n' := fun T' n' a b c => ⟨a, b, c⟩
  refine ls_st (pl := nI (xP X i)) (by omega) h51 hP (by omega) ?_
  intro T2 f2 r2
  unfold lsR
  simp only [gd, if_pos zm, cm]
  rw [f2.o (k := 50) (by omega), h50, if_neg (by decide), if_neg (by decide), if_neg (by decide), if_neg (by decide), if_neg (by decide), if_pos rfl]
  unfold rj_Model_layStep_508
  simp only [gd, if_pos zm, cm]
  obtain ⟨r, w, T3, e3, m3, f3, x3, l3⟩ := x_exC (d := d + 1) hX hnf hcf hG (h4.lf f2 w8.1 (by omega)) (by omega) w8.1 (by omega) (hE.lf f2) (hP.lf f2) (by omega) (by omega)
  rw [f2.o (k := 52) (by omega), e3, bis, f3.o (k := 50) (by omega), f2.o (k := 50) (by omega), h50, if_neg (by decide), if_pos rfl]
  unfold rj_Model_layStep_553
  rw [gd, if_pos zm, cm]
  have := f3.1
  have key : ∀ b : Int32, LtQ X it (tD 25 i e ta tb) ys no S n T (ly T3 m3 30 b 0 0) := by
    intro b
    have f4 : LF T3 (ly T3 m3 30 b 0 0) m3 (m3 + 1) := LF.l1
    refine ⟨m3 + 1, (f2.tr f3).tr f4, by omega, cd _ _ (by omega) ?_ ?_⟩
    · rw [f4.rw (by omega), f3.rw (by omega)]; exact r2
    · exact ⟨m3, b, x3.ag (AgR.lf f4 (Nat.le_refl _)) (Nat.le_refl _) (Nat.le_refl _), ly_row, rfl⟩
  by_cases c0 : T3.1 60 m = -1
  · rw [if_pos c0, x_lay f3.2.1 (by omega), bis]
    exact wp_some (key 0)
  · rw [if_neg c0, x_lay f3.2.1 (by omega), bis]
    exact wp_some (key 1)
theorem lt_30 (hX : xn X ≤ 4000) (hnf : 8300 ≤ nf) (hcf : cn Tf < 6000) (hw : Ws X (tD 30 i e ta tb) 0 a b v g v' g') (hb : b ≤ xn X) (hH : LtH X it Tf T (tD 30 i e ta tb) p p' lo hi x ys no j S) (hP : LyP T 0 n) (hn : n + 3 * cws X (tD 30 i e ta tb) ≤ 12000) (hd : 2 * bdT (tD 30 i e ta tb) + 301 ≤ d) : wp (RR nf d 100 T [x] []) (fun _ _ T' => LtQ X it (tD 30 i e ta tb) ys no S n T T') := by
  obtain ⟨hA1, hN, hhi, hG, hE⟩ := hH
  replace hG := hG.2.2.2
  rw [Ws_n] at hw
  obtain ⟨d, rfl⟩ : ∃ g, d = g + 2 := ⟨d - 2, by omega⟩
  obtain ⟨w1, w2, w3, c, w8, w9⟩ : i = a ∧ v' = v ∧ g' = g ∧ ∃ c, (Wf X ta false a c ∧ dpT ta ≤ 40) ∧ c < b := hw
  obtain ⟨m, rfl, h2, h3, h4, h5⟩ : ∃ m, x = nI m ∧ lo ≤ m ∧ hi = m + 1 ∧ AnE X T ta lo m (T.1 52 m) (chk X ta 0 0 S).1 (chk X ta 0 0 S).2.1 (chk X ta 0 0 S).2.2.1 ∧ T.1 60 m = (chk X ta 0 0 S).1 := hA1
  obtain ⟨m', m1, m2, h50, h51, _⟩ : ∃ r, r < 8200 ∧ nI m = nI r ∧ T.1 50 r = 30 ∧ T.1 51 r = nI (xP X i) ∧ True := hN
  obtain rfl : m = m' := nI_inj (by omega) (by omega) m2
  replace hG : GE X Tf ta S := hG
  have hc1 : cws X (tD 30 i e ta tb) = cw X ta + 1 := rfl
  have zm : inb (nI m) 8200 := nin (by omega) (by omega)
  have cm : (nI m).toNatClampNeg = m := nc (by omega)
  have cd : ∀ (T' : gSt) (n' : Nat), n < n' → rwC4 T' n = (0, nI (xP X i), 0, 0) → (∃ m, ExC T' (chk X ta 0 0 S).2.2.1 (n + 1) m ∧ rwC4 T' m = (36, (if (chk X ta 0 0 S).1 = -1 then 0 else 1), 0, 0) ∧ n' = m + 1) → CdS X it T' (tD 30 i e ta tb) ys no S n n' := fun T' n' a b c => ⟨a, b, c⟩
  refine ls_st (pl := nI (xP X i)) (by omega) h51 hP (by omega) ?_
  intro T2 f2 r2
  unfold lsR
  simp only [gd, if_pos zm, cm]
  rw [f2.o (k := 50) (by omega), h50, if_neg (by decide), if_neg (by decide), if_neg (by decide), if_neg (by decide), if_neg (by decide), if_neg (by decide), if_neg (by decide), if_neg (by decide), if_neg (by decide), if_neg (by decide)]
  unfold rj_Model_layStep_508
  simp only [gd, if_pos zm, cm]
  obtain ⟨r, w, T3, e3, m3, f3, x3, l3⟩ := x_exC (d := d + 1) hX hnf hcf hG (h4.lf f2 w8.1 (by omega)) (by omega) w8.1 (by omega) (hE.lf f2) (hP.lf f2) (by omega) (by omega)
  rw [f2.o (k := 52) (by omega), e3, bis, f3.o (k := 50) (by omega), f2.o (k := 50) (by omega), h50, if_neg (by decide), if_neg (by decide)]
  unfold rj_Model_layStep_553
  rw [gd, if_pos zm, cm, f3.o (k := 60) (by omega), f2.o (k := 60) (by omega), h5]
  have := f3.1
  have key : ∀ b : Int32, b = (if (chk X ta 0 0 S).1 = -1 then 0 else 1) → LtQ X it (tD 30 i e ta tb) ys no S n T (ly T3 m3 36 b 0 0) := by
    intro b hb
    have f4 : LF T3 (ly T3 m3 36 b 0 0) m3 (m3 + 1) := LF.l1
    refine ⟨m3 + 1, (f2.tr f3).tr f4, by omega, cd _ _ (by omega) ?_ ?_⟩
    · rw [f4.rw (by omega), f3.rw (by omega)]; exact r2
    · exact ⟨m3, x3.ag (AgR.lf f4 (Nat.le_refl _)) (Nat.le_refl _) (Nat.le_refl _), by rw [ly_row, hb], rfl⟩
  by_cases c0 : (chk X ta 0 0 S).1 = -1
  · rw [if_pos c0, x_lay f3.2.1 (by omega), bis]
    exact wp_some (key 0 (by rw [if_pos c0]))
  · rw [if_neg c0, x_lay f3.2.1 (by omega), bis]
    exact wp_some (key 1 (by rw [if_neg c0]))
theorem lt_29 (hX : xn X ≤ 4000) (hnf : 8300 ≤ nf) (hcf : cn Tf < 6000) (hw : Ws X (tD 29 i e ta tb) 0 a b v g v' g') (hb : b ≤ xn X) (hH : LtH X it Tf T (tD 29 i e ta tb) p p' lo hi x ys no j S) (hP : LyP T 0 n) (hn : n + 3 * cws X (tD 29 i e ta tb) ≤ 12000) (hd : 2 * bdT (tD 29 i e ta tb) + 301 ≤ d) : wp (RR nf d 100 T [x] []) (fun _ _ T' => LtQ X it (tD 29 i e ta tb) ys no S n T T') := by
  obtain ⟨hA1, hN, hhi, hG, hE⟩ := hH
  replace hG := hG.2.2.2
  rw [Ws_n] at hw
  obtain ⟨d, rfl⟩ : ∃ g, d = g + 2 := ⟨d - 2, by omega⟩
  obtain ⟨w1, w2, w3, c, c2, w4, w5, w6⟩ : i = a ∧ v' = v ∧ g' = g ∧ ∃ c c2, (Wf X ta false a c ∧ dpT ta ≤ 40) ∧ (Wf X tb false (c + 1) c2 ∧ dpT tb ≤ 40) ∧ c2 < b := hw
  obtain ⟨m, y, rfl, h1, h2, h3, h4, h5, h6⟩ : ∃ m y, x = nI m ∧ m < hi ∧ T.1 52 m = nI y ∧ lo ≤ y ∧ y < m ∧ AnE X T tb (m + 1) hi (T.1 53 m) (chk X tb 0 0 S).1 (chk X tb 0 0 S).2.1 (chk X tb 0 0 S).2.2.1 ∧ (if tkd X ta = 4 then T.1 61 y = tf (chk X tb 0 0 S).2.2.2 79 (fd (isVa (chk X tb 0 0 S).2.2.2 (xN X (lfI ta))) (vn (chk X tb 0 0 S).2.2.2)) ∧ T.1 60 y = tf (chk X tb 0 0 S).2.2.2 80 (fd (isVa (chk X tb 0 0 S).2.2.2 (xN X (lfI ta))) (vn (chk X tb 0 0 S).2.2.2)) else AnE X T ta lo m (T.1 52 m) (chk X ta 0 0 (chk X tb 0 0 S).2.2.2).1 (chk X ta 0 0 (chk X tb 0 0 S).2.2.2).2.1 (chk X ta 0 0 (chk X tb 0 0 S).2.2.2).2.2.1) := hA1
  obtain ⟨m', m1, m2, h50, h51, y', y1, y2, y3⟩ : ∃ r, r < 8200 ∧ nI m = nI r ∧ T.1 50 r = 29 ∧ T.1 51 r = nI (xP X i) ∧ ∃ y, y < 8200 ∧ T.1 52 r = nI y ∧ T.1 50 y = nI (tkd X ta) := hN
  obtain rfl : m = m' := nI_inj (by omega) (by omega) m2
  obtain rfl : y = y' := nI_inj (by omega) (by omega) (h2.symm.trans y2)
  obtain ⟨gB, gA⟩ : GE X Tf tb S ∧ (tkd X ta = 4 ∨ (tkd X ta = 14 ∨ tkd X ta = 15 ∨ tkd X ta = 16) ∧ GE X Tf ta (chk X tb 0 0 S).2.2.2) := hG
  have hc1 : cws X (tD 29 i e ta tb) = cw X ta + cw X tb + 2 := rfl
  have le4 := Wf_le2 w4.1
  have le5 := Wf_le2 w5.1
  have zm : inb (nI m) 8200 := nin (by omega) (by omega)
  have cm : (nI m).toNatClampNeg = m := nc (by omega)
  have cd : ∀ (T' : gSt) (n' : Nat), n < n' → rwC4 T' n = (0, nI (xP X i), 0, 0) → (∃ m, ExC T' (chk X tb 0 0 S).2.2.1 (n + 1) m ∧ m < n' ∧ (if tkd X ta = 4 then rwC4 T' m = (22, tf (chk X tb 0 0 S).2.2.2 79 (fd (isVa (chk X tb 0 0 S).2.2.2 (xN X (lfI ta))) (vn (chk X tb 0 0 S).2.2.2)), 0, 0) ∧ n' = m + 1 else CpP T' (chk X ta 0 0 (chk X tb 0 0 S).2.2.2).2.2.1 m n')) → CdS X it T' (tD 29 i e ta tb) ys no S n n' := fun T' n' a b c => ⟨a, b, c⟩
  refine ls_st (pl := nI (xP X i)) (by omega) h51 hP (by omega) ?_
  intro T2 f2 r2
  unfold lsR
  simp only [gd, if_pos zm, cm]
  rw [f2.o (k := 50) (by omega), h50, if_neg (by decide), if_neg (by decide), if_neg (by decide), if_neg (by decide), if_neg (by decide), if_neg (by decide), if_neg (by decide), if_neg (by decide), if_neg (by decide), if_pos rfl]
  obtain ⟨r, w, T3, e3, m3, f3, x3, l3⟩ := x_exC (d := d + 1) hX hnf hcf gB (h5.lf f2 w5.1 (by omega)) hhi w5.1 (by omega) (hE.lf f2) (hP.lf f2) (by omega) (by omega)
  have f23 := f2.tr f3
  rw [f2.o (k := 53) (by omega), e3, bis, f23.o (k := 52) (by omega)]
  have l4 := f3.1
  by_cases k4 : tkd X ta = 4
  · rw [if_pos k4] at h6
    have zy : inb (nI y) 8200 := nin (by omega) (by omega)
    have cy : (nI y).toNatClampNeg = y := nc (by omega)
    rw [h2, e_Model_layPlace nf d]
    unfold rb_Model_layPlace
    obtain ⟨d', rfl⟩ : ∃ g, d = g + 1 := ⟨d - 1, by omega⟩
    rw [gd, if_pos zy, cy, f23.o (k := 50) (by omega), y3, k4, if_pos (show nI 4 = 4 from rfl), gd, if_pos zy, f23.o (k := 61) (by omega), h6.1, x_lay f3.2.1 (by omega), bis, bis]
    have f4 : LF T3 (ly T3 m3 22 (tf (chk X tb 0 0 S).2.2.2 79 (fd (isVa (chk X tb 0 0 S).2.2.2 (xN X (lfI ta))) (vn (chk X tb 0 0 S).2.2.2))) 0 0) m3 (m3 + 1) := LF.l1
    refine wp_some ⟨m3 + 1, f23.tr f4, by omega, cd _ _ (by omega) ?_ ?_⟩
    · rw [f4.rw (by omega), f3.rw (by omega)]; exact r2
    · refine ⟨m3, x3.ag (AgR.lf f4 (Nat.le_refl _)) (Nat.le_refl _) (Nat.le_refl _), by omega, ?_⟩
      rw [if_pos k4]
      exact ⟨ly_row, rfl⟩
  · rw [if_neg k4] at h6
    obtain ⟨gT, gA⟩ := gA.resolve_left k4
    have jg := gA.jg hcf
    have hE3 := hE.lf f23
    have al := AnE_len _ _ _ _ _ _ _ _ _ _ h6 w4.1
    have dp := gA.1
    obtain ⟨_, _, _, dp⟩ := dp
    obtain ⟨r', w', T4, e4, m4, f4, x4, l5⟩ := x_lw hX hnf ta T3 (d + 1) lo m a c 0 m3 (T.1 52 m) _ _ _ (h6.lf f23 w4.1 (by omega)) (by omega) w4.1 (by omega) jg.2 (fun j hj => (jg.1 j hj).eq hE3.1 hE3.2.1 hE3.2.2) gT (hP.lf f23) (by omega) (by omega) (by omega)
    rw [e4, bis]
    have l6 := f4.1
    have lp : m3 < m4 := by
      obtain ⟨_, _, _, _, _, _, q⟩ := x4
      omega
    refine wp_some ⟨m4, f23.tr f4, by omega, cd _ _ (by omega) ?_ ?_⟩
    · rw [f4.rw (by omega), f3.rw (by omega)]; exact r2
    · refine ⟨m3, x3.ag (AgR.lf f4 (Nat.le_refl _)) (Nat.le_refl _) (Nat.le_refl _), lp, ?_⟩
      rw [if_neg k4]
      exact x4
theorem lt_27 (hX : xn X ≤ 4000) (hnf : 8300 ≤ nf) (hcf : cn Tf < 6000) (hw : Ws X (tD 27 i e ta tb) 0 a b v g v' g') (hb : b ≤ xn X) (hH : LtH X it Tf T (tD 27 i e ta tb) p p' lo hi x ys no j S) (hP : LyP T 0 n) (hn : n + 3 * cws X (tD 27 i e ta tb) ≤ 12000) (hd : 2 * bdT (tD 27 i e ta tb) + 301 ≤ d) : wp (RR nf d 100 T [x] []) (fun _ _ T' => LtQ X it (tD 27 i e ta tb) ys no S n T T') := by
  obtain ⟨hA1, hN, hhi, hG, hE⟩ := hH
  replace hG := hG.2.2.2
  rw [Ws_n] at hw
  obtain ⟨d, rfl⟩ : ∃ g, d = g + 2 := ⟨d - 2, by omega⟩
  obtain ⟨rfl, h1, u, h2, h3, h4⟩ : x = nI lo ∧ hi = lo + 1 ∧ ∃ u, T.1 58 lo = nI u ∧ RepU X T u (i + 1) 1 ∧ T.1 48 u = srR X S (i + 1) := hA1
  obtain ⟨m, m1, m2, h50, h51, _⟩ : ∃ m, m < 8200 ∧ nI lo = nI m ∧ T.1 50 m = 27 ∧ T.1 51 m = nI (xP X i) ∧ True := hN
  obtain rfl : lo = m := nI_inj (by omega) (by omega) m2
  have hc1 : cws X (tD 27 i e ta tb) = 3 := rfl
  have hu := h3.1
  have hU := hP.2.2.1
  have zu : inb (nI u) 4000 := nin (by omega) (by omega)
  have cu : (nI u).toNatClampNeg = u := nc (by omega)
  have zm : inb (nI lo) 8200 := nin (by omega) (by omega)
  have cm : (nI lo).toNatClampNeg = lo := nc (by omega)
  refine ls_st (pl := nI (xP X i)) (by omega) h51 hP (by omega) ?_
  intro T2 f2 r2
  unfold lsR
  simp only [gd, if_pos zm, cm]
  rw [f2.o (k := 50) (by omega), h50, if_neg (by decide), if_neg (by decide), if_neg (by decide), if_neg (by decide), if_neg (by decide), if_neg (by decide), if_neg (by decide), if_pos rfl]
  rw [f2.o (k := 58) (by omega), h2, if_pos zu, cu, f2.o (k := 48) (by omega), h4, x_lay f2.2.1 (by omega), bis]
  have f4 : LF T2 (ly T2 (n + 1) 33 (srR X S (i + 1)) 0 0) (n + 1) (n + 1 + 1) := LF.l1
  refine wp_some ⟨n + 1 + 1, f2.tr f4, by omega, ?_⟩
  have : n < n + 1 + 1 ∧ rwC4 (ly T2 (n + 1) 33 (srR X S (i + 1)) 0 0) n = (0, nI (xP X i), 0, 0) ∧ rwC4 (ly T2 (n + 1) 33 (srR X S (i + 1)) 0 0) (n + 1) = (33, srR X S (i + 1), 0, 0) ∧ n + 1 + 1 = n + 2 := ⟨by omega, by rw [f4.rw (by omega)]; exact r2, ly_row, rfl⟩
  exact this
theorem lt_26 (hA : LtB nf X it Tf ta) (hX : xn X ≤ 4000) (hnf : 8300 ≤ nf) (hcf : cn Tf < 6000) (hw : Ws X (tD 26 i e ta tb) 0 a b v g v' g') (hb : b ≤ xn X) (hH : LtH X it Tf T (tD 26 i e ta tb) p p' lo hi x ys no j S) (hP : LyP T 0 n) (hn : n + 3 * cws X (tD 26 i e ta tb) ≤ 12000) (hd : 2 * bdT (tD 26 i e ta tb) + 301 ≤ d) : wp (RR nf d 100 T [x] []) (fun _ _ T' => LtQ X it (tD 26 i e ta tb) ys no S n T T') := by
  obtain ⟨hA1, hN, hhi, hG, hE⟩ := hH
  replace hG := hG.2.2.2
  rw [Ws_n] at hw
  obtain ⟨d, rfl⟩ : ∃ g, d = g + 2 := ⟨d - 2, by omega⟩
  obtain ⟨w1, w2, w3⟩ : i = a ∧ g < 8 ∧ Ws X ta 2 (a + 2) b v (g + 1) v' g' := hw
  obtain ⟨rfl, h1, ⟨u, h2, h3, h4⟩, h5⟩ : x = nI lo ∧ lo < hi ∧ (∃ u, T.1 58 lo = nI u ∧ RepU X T u (i + 1) 1 ∧ T.1 48 u = 4 + S.1 86 0) ∧ AnS X it T ta (lo + 1) (lo + 1) hi (T.1 52 lo) 0 0 (rgO S (xN X (i + 1))) := hA1
  obtain ⟨m, m1, m2, h50, h51, hN⟩ : ∃ m, m < 8200 ∧ nI lo = nI m ∧ T.1 50 m = 26 ∧ T.1 51 m = nI (xP X i) ∧ NdS X T ta m (T.1 52 m) := hN
  obtain rfl : lo = m := nI_inj (by omega) (by omega) m2
  replace hG : Gk X it Tf ta 0 0 0 (rgO S (xN X (i + 1))) := hG
  have hc1 : cws X (tD 26 i e ta tb) = cws X ta + 2 := rfl
  have hb1 : bdT (tD 26 i e ta tb) = bdT ta := rfl
  have hu := h3.1
  have hU := hP.2.2.1
  have zu : inb (nI u) 4000 := nin (by omega) (by omega)
  have cu : (nI u).toNatClampNeg = u := nc (by omega)
  have zm : inb (nI lo) 8200 := nin (by omega) (by omega)
  have cm : (nI lo).toNatClampNeg = lo := nc (by omega)
  refine ls_st (pl := nI (xP X i)) (by omega) h51 hP (by omega) ?_
  intro T2 f2 r2
  unfold lsR
  simp only [gd, if_pos zm, cm]
  rw [f2.o (k := 50) (by omega), h50, if_neg (by decide), if_neg (by decide), if_neg (by decide), if_neg (by decide), if_neg (by decide), if_neg (by decide), if_pos rfl]
  rw [f2.o (k := 58) (by omega), h2, if_pos zu, cu, f2.o (k := 48) (by omega), h4, x_lay f2.2.1 (by omega), bis]
  have f3 : LF T2 (ly T2 (n + 1) 31 (4 + S.1 86 0) 0 0) (n + 1) (n + 1 + 1) := LF.l1
  have r3 : rwC4 (ly T2 (n + 1) 31 (4 + S.1 86 0) 0 0) (n + 1) = (31, 4 + S.1 86 0, 0, 0) := ly_row
  generalize ly T2 (n + 1) 31 (4 + S.1 86 0) 0 0 = T3 at *
  have f23 := f2.tr f3
  obtain ⟨r', w', T4, e4, m4, f4, l4, x4⟩ := hA T3 (d + 1) (lo + 1) lo (lo + 1) hi (T.1 52 lo) 0 0 0 (rgO S (xN X (i + 1))) (n + 1 + 1) _ _ _ _ _ _ w3 hb ⟨h5.lf w3 hb f23, hN.lf f23, hhi, hG, hE.lf f23⟩ (hP.lf f23) (by omega) (by omega)
  have l5 := f4.1
  have f24 := f23.tr f4
  rw [f23.o (k := 52) (by omega), e4, bis, f24.o (k := 58) (by omega), h2, if_pos zu, cu, f24.o (k := 48) (by omega), h4, x_lay f4.2.1 (by omega), bis]
  have f5 : LF T4 (ly T4 m4 32 (4 + S.1 86 0) 0 0) m4 (m4 + 1) := LF.l1
  have r5 : rwC4 (ly T4 m4 32 (4 + S.1 86 0) 0 0) m4 = (32, 4 + S.1 86 0, 0, 0) := ly_row
  generalize ly T4 m4 32 (4 + S.1 86 0) 0 0 = T5 at *
  refine wp_some ⟨m4 + 1, f24.tr f5, by omega, ?_⟩
  have : n < m4 + 1 ∧ rwC4 T5 n = (0, nI (xP X i), 0, 0) ∧ ∃ q, n + 2 ≤ q ∧ m4 + 1 = q + 1 ∧ rwC4 T5 (n + 1) = (31, 4 + S.1 86 0, 0, 0) ∧ rwC4 T5 q = (32, 4 + S.1 86 0, 0, 0) ∧ CdS X it T5 ta 0 0 (rgO S (xN X (i + 1))) (n + 2) q := by
    refine ⟨by omega, ?_, m4, by omega, rfl, ?_, r5, CdS.ag ta _ _ _ _ _ (AgR.lf f5 (Nat.le_refl _)) x4⟩
    · rw [f5.rw (by omega), f4.rw (by omega), f3.rw (by omega)]; exact r2
    · rw [f5.rw (by omega), f4.rw (by omega)]; exact r3
  exact this
theorem lt_28 (hA : LtB nf X it Tf ta) (hB : LtB nf X it Tf tb) (hX : xn X ≤ 4000) (hnf : 8300 ≤ nf) (hcf : cn Tf < 6000) (hw : Ws X (tD 28 i e ta tb) 0 a b v g v' g') (hb : b ≤ xn X) (hH : LtH X it Tf T (tD 28 i e ta tb) p p' lo hi x ys no j S) (hP : LyP T 0 n) (hn : n + 3 * cws X (tD 28 i e ta tb) ≤ 12000) (hd : 2 * bdT (tD 28 i e ta tb) + 301 ≤ d) : wp (RR nf d 100 T [x] []) (fun _ _ T' => LtQ X it (tD 28 i e ta tb) ys no S n T T') := by
  obtain ⟨hA1, hN, hhi, hG, hE⟩ := hH
  replace hG := hG.2.2.2
  rw [Ws_n] at hw
  obtain ⟨d, rfl⟩ : ∃ g, d = g + 2 := ⟨d - 2, by omega⟩
  obtain ⟨w1, c, v1, g1, w2, w3⟩ : i = a ∧ ∃ c v1 g1, Ws X ta 2 (a + 1) c v g v1 g1 ∧ Ws X tb 2 (c + 1) b v1 g1 v' g' := hw
  have mo := Ws_mo _ _ _ _ _ _ _ _ w3
  obtain ⟨rfl, h1, c1, h2, h3, h4, h5⟩ : x = nI lo ∧ T.1 61 lo = (trM X (stS X it ta) ta S).1 87 0 ∧ ∃ c, lo < c ∧ c ≤ hi ∧ AnS X it T ta (lo + 1) (lo + 1) c (T.1 52 lo) 0 0 (trO S) ∧ AnS X it T tb c c hi (T.1 53 lo) 0 0 (trM X (stS X it ta) ta S) := hA1
  obtain ⟨m, m1, m2, h50, h51, n1, n2⟩ : ∃ m, m < 8200 ∧ nI lo = nI m ∧ T.1 50 m = 28 ∧ T.1 51 m = nI (xP X i) ∧ NdS X T ta m (T.1 52 m) ∧ NdS X T tb m (T.1 53 m) := hN
  obtain rfl : lo = m := nI_inj (by omega) (by omega) m2
  obtain ⟨gA, gB⟩ : Gk X it Tf ta 0 0 0 (trO S) ∧ Gk X it Tf tb 0 0 0 (trM X (stS X it ta) ta S) := hG
  have hc1 : cws X (tD 28 i e ta tb) = cws X ta + cws X tb + 2 := rfl
  have hb1 : bdT (tD 28 i e ta tb) = max (bdT ta) (bdT tb) := rfl
  have zm : inb (nI lo) 8200 := nin (by omega) (by omega)
  have cm : (nI lo).toNatClampNeg = lo := nc (by omega)
  refine ls_st (pl := nI (xP X i)) (by omega) h51 hP (by omega) ?_
  intro T2 f2 r2
  unfold lsR
  simp only [gd, if_pos zm, cm]
  rw [f2.o (k := 50) (by omega), h50, if_neg (by decide), if_neg (by decide), if_neg (by decide), if_neg (by decide), if_neg (by decide), if_neg (by decide), if_neg (by decide), if_neg (by decide), if_pos rfl]
  generalize hk : (trM X (stS X it ta) ta S).1 87 0 = ct at *
  rw [f2.o (k := 61) (by omega), h1, x_lay f2.2.1 (by omega), bis]
  have f3 : LF T2 (ly T2 (n + 1) 34 0 ct 0) (n + 1) (n + 1 + 1) := LF.l1
  have r3 : rwC4 (ly T2 (n + 1) 34 0 ct 0) (n + 1) = (34, 0, ct, 0) := ly_row
  generalize ly T2 (n + 1) 34 0 ct 0 = T3 at *
  have f23 := f2.tr f3
  obtain ⟨r', w', T4, e4, m4, f4, l4, x4⟩ := hA T3 (d + 1) (lo + 1) lo (lo + 1) c1 (T.1 52 lo) 0 0 0 (trO S) (n + 1 + 1) _ _ _ _ _ _ w2 (by omega) ⟨h4.lf w2 (by omega) f23, n1.lf f23, by omega, gA, hE.lf f23⟩ (hP.lf f23) (by omega) (by omega)
  have l5 := f4.1
  have f24 := f23.tr f4
  rw [f23.o (k := 52) (by omega), e4, bis, x_lay f4.2.1 (by omega), bis]
  have f5 : LF T4 (ly T4 m4 35 0 0 0) m4 (m4 + 1) := LF.l1
  have r5 : rwC4 (ly T4 m4 35 0 0 0) m4 = (35, 0, 0, 0) := ly_row
  generalize ly T4 m4 35 0 0 0 = T5 at *
  rw [x_lay f5.2.1 (by omega), bis]
  have f6 : LF T5 (ly T5 (m4 + 1) 27 0 0 0) (m4 + 1) (m4 + 1 + 1) := LF.l1
  have r6 : rwC4 (ly T5 (m4 + 1) 27 0 0 0) (m4 + 1) = (27, 0, 0, 0) := ly_row
  generalize ly T5 (m4 + 1) 27 0 0 0 = T6 at *
  have zr : inb (nI (n + 1)) 12000 := nin (by omega) (by omega)
  have cr : (nI (n + 1)).toNatClampNeg = n + 1 := nc (by omega)
  have zs : inb (nI (m4 + 1)) 12000 := nin (by omega) (by omega)
  have cs : (nI (m4 + 1)).toNatClampNeg = m4 + 1 := nc (by omega)
  rw [if_pos zr, cr, stK, f6.2.1]
  have f26 := (f24.tr f5).tr f6
  have f7 := f26.pt (q := n + 1) (x := nI (m4 + 1 + 1)) (by omega)
  have a7 : ∀ a b, n + 1 < a ∨ b ≤ n + 1 → AgR T6 (sI T6 97 (n + 1) (nI (m4 + 1 + 1))) a b := fun a b h => AgR.pt (by omega)
  have r7 : rwC4 (sI T6 97 (n + 1) (nI (m4 + 1 + 1))) (n + 1) = (34, nI (m4 + 1 + 1), ct, 0) := by
    have r8 : rwC4 T6 (n + 1) = (34, 0, ct, 0) := by rw [f6.rw (by omega), f5.rw (by omega), f4.rw (by omega)]; exact r3
    unfold rwC4 at r8 ⊢
    rw [sI_ne (g' := 96) (by omega), sI_ne (g' := 98) (by omega), sI_ne (g' := 99) (by omega), rdI, if_pos ⟨rfl, rfl⟩]
    simp only [Prod.mk.injEq] at r8 ⊢
    exact ⟨r8.1, trivial, r8.2.2.1, r8.2.2.2⟩
  generalize sI T6 97 (n + 1) (nI (m4 + 1 + 1)) = T7 at *
  obtain ⟨r'', w'', T8, e8, m8, f8, l8, x8⟩ := hB T7 (d + 1) c1 lo c1 hi (T.1 53 lo) 0 0 0 (trM X (stS X it ta) ta S) (m4 + 1 + 1) _ _ _ _ _ _ w3 hb ⟨h5.lf w3 hb f7, n2.lf f7, hhi, gB, hE.lf f7⟩ (hP.lf f7) (by omega) (by omega)
  have l9 := f8.1
  rw [f7.o (k := 53) (by omega), e8, bis, if_pos zs, cs, stK, f8.2.1]
  refine wp_some ⟨m8, (f7.tr f8).pt (by omega), by omega, ?_⟩
  have a9 : ∀ a b, m4 + 1 < a ∨ b ≤ m4 + 1 → AgR T8 (sI T8 97 (m4 + 1) (nI m8)) a b := fun a b h => AgR.pt (by omega)
  have r9 : rwC4 (sI T8 97 (m4 + 1) (nI m8)) (m4 + 1) = (27, nI m8, 0, 0) := by
    have r8 : rwC4 T8 (m4 + 1) = (27, 0, 0, 0) := by rw [f8.rw (by omega), (a7 (m4 + 1) (m4 + 1 + 1) (by omega)).rw (Nat.le_refl _) (by omega)]; exact r6
    unfold rwC4 at r8 ⊢
    rw [sI_ne (g' := 96) (by omega), sI_ne (g' := 98) (by omega), sI_ne (g' := 99) (by omega), rdI, if_pos ⟨rfl, rfl⟩]
    simp only [Prod.mk.injEq] at r8 ⊢
    exact ⟨r8.1, trivial, r8.2.2.1, r8.2.2.2⟩
  generalize sI T8 97 (m4 + 1) (nI m8) = T9 at *
  have : n < m8 ∧ rwC4 T9 n = (0, nI (xP X i), 0, 0) ∧ ∃ q, n + 2 ≤ q ∧ q + 2 ≤ m8 ∧ rwC4 T9 (n + 1) = (34, nI (q + 2), (trM X (stS X it ta) ta S).1 87 0, 0) ∧ rwC4 T9 q = (35, 0, 0, 0) ∧ rwC4 T9 (q + 1) = (27, nI m8, 0, 0) ∧ CdS X it T9 ta 0 0 (trO S) (n + 2) q ∧ CdS X it T9 tb 0 0 (trM X (stS X it ta) ta S) (q + 2) m8 := by
    refine ⟨by omega, ?_, m4, by omega, by omega, ?_, ?_, r9, ?_, ?_⟩
    · rw [(a9 n (n + 1) (by omega)).rw (Nat.le_refl _) (by omega), f8.rw (by omega), (a7 n (n + 1) (by omega)).rw (Nat.le_refl _) (by omega), f6.rw (by omega), f5.rw (by omega), f4.rw (by omega), f3.rw (by omega)]; exact r2
    · rw [(a9 (n + 1) (n + 2) (by omega)).rw (Nat.le_refl _) (by omega), f8.rw (by omega), hk]; exact r7
    · rw [(a9 m4 (m4 + 1) (by omega)).rw (Nat.le_refl _) (by omega), f8.rw (by omega), (a7 m4 (m4 + 1) (by omega)).rw (Nat.le_refl _) (by omega), f6.rw (by omega)]; exact r5
    · exact CdS.ag ta _ _ _ _ _ (((((AgR.lf f5 (Nat.le_refl _)).tr (AgR.lf f6 (by omega))).tr (a7 _ _ (by omega))).tr (AgR.lf f8 (by omega))).tr (a9 _ _ (by omega))) x4
    · exact CdS.ag tb _ _ _ _ _ (a9 _ _ (by omega)) x8
  exact this
theorem lt_t (hX : xn X ≤ 4000) (hnf : 8300 ≤ nf) (hcf : cn Tf < 6000) (hA : LtB nf X it Tf ta) (hB : LtB nf X it Tf tb) (hPB : LtP nf X it Tf tb) : LtT nf X it Tf (tD k i e ta tb) := by
  intro T d p p' lo hi x ys no j S n a b v g v' g' hw hb hH hP hn hd
  have hw0 := hw
  rw [Ws_n] at hw
  unfold WsN at hw
  rw [if_neg (by omega), if_neg (by omega), if_neg (by omega)] at hw
  by_cases c : k = 20
  · subst c; exact lt_20 hX hnf hcf hw0 hb hH hP hn hd
  rw [if_neg c] at hw; clear c
  by_cases c : k = 21
  · subst c; exact lt_21 hPB hX hnf hcf hw0 hb hH hP hn hd
  rw [if_neg c] at hw; clear c
  by_cases c : k = 22
  · subst c; exact lt_22 hB hX hnf hcf hw0 hb hH hP hn hd
  rw [if_neg c] at hw; clear c
  by_cases c : k = 23
  · subst c; exact lt_23 hX hnf hcf hw0 hb hH hP hn hd
  rw [if_neg c] at hw; clear c
  by_cases c : k = 24
  · subst c; exact lt_24 hX hnf hcf hw0 hb hH hP hn hd
  by_cases c2 : k = 25
  · subst c2; exact lt_25 hX hnf hcf hw0 hb hH hP hn hd
  rw [if_neg (by omega)] at hw; clear c c2
  by_cases c : k = 30
  · subst c; exact lt_30 hX hnf hcf hw0 hb hH hP hn hd
  rw [if_neg c] at hw; clear c
  by_cases c : k = 29
  · subst c; exact lt_29 hX hnf hcf hw0 hb hH hP hn hd
  rw [if_neg c] at hw; clear c
  by_cases c : k = 26
  · subst c; exact lt_26 hA hX hnf hcf hw0 hb hH hP hn hd
  rw [if_neg c] at hw; clear c
  by_cases c : k = 27
  · subst c; exact lt_27 hX hnf hcf hw0 hb hH hP hn hd
  rw [if_neg c] at hw; clear c
  by_cases c : k = 28
  · subst c; exact lt_28 hA hB hX hnf hcf hw0 hb hH hP hn hd
  rw [if_neg c] at hw
  exact hw.elim
/-- all STEPS are laid out as told -/
theorem x_lst (hX : xn X ≤ 4000) (hnf : 8300 ≤ nf) (hcf : cn Tf < 6000) (t : Tr) : LtB nf X it Tf t ∧ LtT nf X it Tf t ∧ LtG nf X it Tf t ∧ LtP nf X it Tf t := by
  induction t using Tr_ind with
  | hz t hz =>
    have no : ∀ m a b v g v' g', Ws X t m a b v g v' g' → m = 1 := by
      intro m a b v g v' g' w
      unfold Ws at w
      split at w
      · exact absurd rfl (hz _ _ _ _ _)
      · exact w.1
      · exact w.elim
    refine ⟨?_, ?_, lt_g0 hz, ?_⟩
    · intro T d p p' lo hi x ys no' j S n a b v g v' g' hw
      exact absurd (no _ _ _ _ _ _ _ hw) (by omega)
    · intro T d p p' lo hi x ys no' j S n a b v g v' g' hw
      exact absurd (no _ _ _ _ _ _ _ hw) (by omega)
    · intro T d p lo hi x ys no' j S n a b v g v' g' hw
      exact absurd (no _ _ _ _ _ _ _ hw) (by omega)
  | h k i e ta tb ihA ihB => exact ⟨lt_b hnf ihA.2.2.1, lt_t hX hnf hcf ihA.1 ihB.1 ihB.2.2.2, lt_g ihA.2.1 ihB.2.2.1, lt_p ihA.1 ihB.1⟩
end LTT
