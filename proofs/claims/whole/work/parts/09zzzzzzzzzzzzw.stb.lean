/-! both machines: a REGION is closed, a region STEP is left -/
/-- what is known behind a REGION's end -/
def ShtS (Sf S S' : gSt) (c q0 : Nat) : Prop := (rn S' = rn S ∧ (∀ k, k < rn S → S'.1 73 k = S.1 73 k) ∧ arn S' = arn S ∧ (∀ q, q < arn S → S'.1 85 q = S.1 85 q) ∧ S'.1 76 0 = S.1 76 0 ∧ S'.1 87 0 = S.1 87 0) ∧ (4 ≤ c ∧ c < 12 ∧ q0 < arn S ∧ S.1 85 q0 = nI c ∧ ¬ isLv S (nI c) = 0 ∧ isLv S' (nI c) = 0) ∧ (∀ x, ¬ x = nI c → (x = -1 ∨ ∃ b, x = nI b ∧ b < 12) → isLv S' x = isLv S x) ∧ (∀ q, q < arn S → S.1 85 q = -1 ∨ ∃ b, S.1 85 q = nI b ∧ b < 12) ∧ (∀ q, q < arn S → S.1 85 q = nI c → q = q0) ∧ (∀ q b, q0 < q → q < arn S → S.1 85 q = nI b → b < 12 → isLv S (nI b) = 0) ∧ ∀ u s, vaP S' u s → vaP S u s ∧ S.1 80 u = S'.1 80 u ∧ slV Sf S u = slV Sf S' u ∧ (fi (S'.1 82 0) s = true → fi (S.1 82 0) s = true)
/-- what is known behind a region STEP whose REGION was closed -/
def LvsS (Sf S S' : gSt) (c : Nat) : Prop := PfR S' S ∧ arn S = arn S' + 1 ∧ S.1 85 (arn S') = nI c ∧ 4 ≤ c ∧ c < 12 ∧ isLv S (nI c) = 0 ∧ S'.1 87 0 = S.1 87 0 ∧ ∀ u s, vaP S' u s → vaP S u s ∧ S.1 80 u = S'.1 80 u ∧ slV Sf S u = slV Sf S' u ∧ (fi (S'.1 82 0) s = true → fi (S.1 82 0) s = true)
section STB
variable {M0 T0 Sf S Sh : gSt} {G G' : GH} {D D' : Nat → (Nat → AV) × Nat} {nf d d' nb nb' mk mk' na na' ng ng' e bs ph bt rb tb ie en hb k q u s i j c t h P W Dp n m it n1 : Nat} {rg rg' : Nat → Nat} {ρ : Nat → Nat} {va : Nat → AV} {M M' T T' : gSt} {v : AV} {x a b cc ee op y z w : Int32} {st s0 st' : List Int32} {ov o0 ov' : List AV} {hs : List HD} {F : FRM} {Fr : Nat → FRM} {f : Nat → Int32} {jj : T5} {r1 : Int32} {l1 : Int64} {tg : List Nat}
variable {S' : gSt} {ρ' : Nat → Nat} {q0 R : Nat}
theorem lvc_sh (h : ShtS Sf S S' c q0) : ∀ q, q ≤ arn S → (q ≤ q0 → lvc S' q = lvc S q) ∧ (q0 < q → lvc S' q = lvc S q0 ∧ lvc S q = lvc S q0 + 1) := by
  obtain ⟨⟨_, _, h3, h4, _, _⟩, ⟨c1, c2, c3, c4, c5, c6⟩, h5, h6, h7, h8, _⟩ := h
  intro q
  induction q with
  | zero => intro _; exact ⟨fun _ => rfl, fun w => absurd w (by omega)⟩
  | succ q ih =>
    intro hq
    obtain ⟨i1, i2⟩ := ih (by omega)
    rw [lvc, lvc, h4 q (by omega)]
    refine ⟨fun w => ?_, fun w => ?_⟩
    · rw [i1 (by omega), h5 _ (fun w0 => by have := h7 q (by omega) w0; omega) (h6 q (by omega))]
    · by_cases e : q = q0
      · subst e
        rw [i1 (Nat.le_refl _), c4, if_neg (fun w0 => w0.2 c6), if_pos ⟨nI_ge0 (by omega), c5⟩]
        exact ⟨rfl, rfl⟩
      · obtain ⟨j1, j2⟩ := i2 (by omega)
        rw [h5 _ (fun w0 => e (h7 q (by omega) w0)) (h6 q (by omega))]
        have hno : ¬ (¬ S.1 85 q < 0 ∧ ¬ isLv S (S.1 85 q) = 0) := by
          rintro ⟨k1, k2⟩
          rcases h6 q (by omega) with k3 | ⟨b, k3, k4⟩
          · exact k1 (by rw [k3]; decide)
          · exact k2 (by rw [k3]; exact h8 q b (by omega) (by omega) k3 k4)
        rw [if_neg hno]
        exact ⟨j1, j2⟩
theorem RgO.sh (h : RgO rg na ng en ρ M T e S rb ie) (hs : ShtS Sf S S' c q0) (ho : ∀ r s, ot rg na ng r s → ot rg na' ng r s) (hM : ∀ b, b < 12 → ¬ b = c → M'.1 121 (12 * e + b) = M.1 121 (12 * e + b)) (hMc : M'.1 121 (12 * e + c) = -1) (hT : ∀ w, w < 17 → T'.1 101 (17 * (e + 1) + w) = T.1 101 (17 * (e + 1) + w)) : RgO rg na' ng en ρ M' T' e S' rb ie := by
  have lv := lvc_sh hs
  obtain ⟨⟨r1, r2, r3, r4, r5, r6⟩, ⟨c1, c2, c3, c4, c5, c6⟩, h5, h6, h7, h8, _⟩ := hs
  obtain ⟨⟨p1, p2, p3, p4, p5, p6⟩, q1, q2, q3, q4⟩ := h
  have lI : ∀ b, b < 12 → ¬ b = c → isLv S' (nI b) = isLv S (nI b) := fun b b12 hb => h5 _ (fun w => hb (nI_inj (by omega) (by omega) w)) (Or.inr ⟨b, rfl, b12⟩)
  refine ⟨⟨p1, p2, p3, p4, p5, by rw [hT 5 (by omega)]; exact p6⟩, fun q b hq hb b4 b12 => ?_, fun q q' b b' hqq hq' hb hb' b4 b12 b4' b12' => ?_, fun b b1 b3 hl => ?_, fun r s r1' r3' s1 s3 hf => ho _ _ (q4 r s r1' r3' s1 s3 (by rw [← r5]; exact hf))⟩
  · have hqa : q < arn S := by omega
    rw [r4 q hqa] at hb
    obtain ⟨k1, k2, k3⟩ := q1 q b hqa hb b4 b12
    refine ⟨k1, k2, ?_⟩
    unfold RgQx at k3 ⊢
    by_cases e1 : b = c
    · rw [e1, if_pos c6]
      exact hMc
    · rw [lI b b12 e1, hM b b12 e1]
      by_cases z : isLv S (nI b) = 0
      · rw [if_pos z] at k3 ⊢
        exact k3
      · rw [if_neg z] at k3 ⊢
        have hql : q ≤ q0 := by
          refine Decidable.byContradiction fun w => z (h8 q b (by omega) hqa hb b12)
        rw [(lv q (by omega)).1 hql]
        refine ⟨k3.1, k3.2.1, fun w hw => ?_⟩
        have hw12 := RgE_12 hw
        rw [hT (5 + w) (by omega)]
        refine k3.2.2 w ?_
        rcases hw with y | ⟨j, j1, j2, j3, j4⟩
        · exact Or.inl y
        · exact Or.inr ⟨j, by omega, j2, by rw [← r2 _ (by omega)]; exact j3, j4⟩
  · rw [r4 q (by omega)] at hb
    rw [r4 q' (by omega)] at hb'
    exact q2 q q' b b' hqq (by omega) hb hb' b4 b12 b4' b12'
  · rw [lI b (by omega) (by omega)] at hl
    obtain ⟨i0, i1, i2, i3, i4⟩ := q3 b b1 b3 hl
    exact ⟨i0, i1, by rw [hM b (by omega) (by omega)]; exact i2, by rw [hT (5 + b) (by omega)]; exact i3, i4⟩
theorem st_shut (cx : CxP M0 T0 Sf) (h : Sim M0 T0 Sf G D nb mk rg na ng P W Fr Dp M T) (rn : RnO M T) (hn : fn (Fr Dp) = n) (hm : fm (Fr Dp) = m) (hn2 : n < 12000) (h51 : T0.1 51 0 = nI n1) (hm2 : m < n1) (h6 : n1 ≤ 6032) (rowR : rwC4 M0 n = (a, nI c, cc, ee)) (ha : a = 32 ∨ a = 33) (rowC : cw3 T0 m = (53, nI i, y)) (hst : fst' (Fr Dp) = []) (ht : ShtS Sf (fS (Fr Dp)) S' c q0) (hrg : RgE (eN Sf (fit (Fr Dp))) (fS (Fr Dp)) c i) (hI : IvP Sf (fit (Fr Dp)) S' [] (fhs (Fr Dp))) (hnf : 16385 ≤ nf) (hd : 20 ≤ d) (hd' : 20 ≤ d') : ∃ M' T', StR nf d M M' ∧ StC nf d' T T' ∧ RnO M' T' ∧ Sim M0 T0 Sf G D nb mk rg (frb (Fr Dp) + lvc (fS (Fr Dp)) q0) ng P W (updF Fr Dp (mkF S' (fρ (Fr Dp)) (fva (Fr Dp)) [] [] (fhs (Fr Dp)) (fit (Fr Dp)) (n + 1) (m + 1) (fbs (Fr Dp)) (fph (Fr Dp)) (frb (Fr Dp)) (ftb (Fr Dp)) (fie (Fr Dp)))) Dp M' T' := by
  obtain ⟨w1, w2, w3, w4, w5, w6, w7, w8, w9⟩ := h.rw (n := n) (m := m)
  obtain ⟨b1, b2, b3, b4, b5⟩ := h.bd
  have hc6 : cn Sf ≤ 6000 := by have := cx.2.1; omega
  obtain ⟨fr, iv⟩ := h.fr
  have lv := lvc_sh ht
  have hT0 := ht
  obtain ⟨⟨r1, r2, r3, r4, r5, r6⟩, ⟨c1, c2, c3, c4, c5, c6⟩, h5, h6', h7, h8, h9⟩ := ht
  have hS := h
  obtain ⟨a1, ⟨a2, a3, a4⟩, a5, a6, a7, a8, a9, a10⟩ := h
  obtain ⟨y1, y2, y3, y4, y5, y6, y7⟩ := a6
  rw [hst] at y1 y2
  obtain ⟨f1, f2, f3, f4, f5, f6⟩ := fr
  obtain ⟨g1, g2, g3, g4, g5, g6, g7⟩ := a1.1
  obtain ⟨lv1, lv2⟩ := (lv _ (Nat.le_refl _)).2 c3
  have naE : na = (frb (Fr Dp) + lvc (fS (Fr Dp)) q0) + 1 := by rw [y3, lv2]; omega
  obtain ⟨k1, k2, k3⟩ := f3.2.1 q0 c c3 c4 c1 c2
  unfold RgQx at k3
  rw [if_neg c5] at k3
  obtain ⟨k3, k4, k5⟩ := k3
  have k6 := k5 i hrg
  have i12 := RgE_12 hrg
  have rb1 := f3.1.2.2.2.2.1
  obtain ⟨x1, l1, M1, T1, e1, e2, e3, e4, e5, e6, e7, e8, e9⟩ := cl_both (nf := nf) (d := d - 1) (d' := d' - 1) (R := (frb (Fr Dp) + lvc (fS (Fr Dp)) q0)) (a1.eq (M' := sI M 102 0 (nI (n + 1))) (T' := sI T 105 0 (nI (m + 1))) (fun k hk => sI_ne (by omega)) (fun k k1 k2 => sI_ne (by omega))) (by omega) (by omega) hnf (by omega) (by omega)
  have mO : ∀ k, k ≠ 102 → k ≠ 121 → k ≠ 129 → k ≠ 132 → k ≠ 136 → k ≠ 138 → k ≠ 143 → k ≠ 149 → (sI M1 121 (12 * Dp + c) (-1)).1 k = M.1 k := fun k q1 q2 q3 q4 q5 q6 q7 q8 => by
    rw [sI_ne q2, e4 k q3 q4 q5 q6 q7 q8, sI_ne q1]
  have m121 : ∀ j, ¬ j = 12 * Dp + c → (sI M1 121 (12 * Dp + c) (-1)).1 121 j = M.1 121 j := fun j hj => by
    rw [rdI, if_neg (by omega), e4 121 (by omega) (by omega) (by omega) (by omega) (by omega) (by omega), sI_ne (by omega)]
  have tO : ∀ k, k ≠ 105 → k ≠ 116 → k ≠ 119 → k ≠ 122 → T1.1 k = T.1 k := fun k q1 q2 q3 q4 => by
    rw [e7 k q2 q3 q4, sI_ne q1]
  have hM3 : M1.1 103 0 = nI (Dp + 1) := by
    rw [e4 103 (by omega) (by omega) (by omega) (by omega) (by omega) (by omega), sI_ne (by omega)]
    exact w8
  have b8 : (frb (Fr Dp) + lvc (fS (Fr Dp)) q0) < 400 := by omega
  have sr : RR nf d 118 (sI M 102 0 (nI (n + 1))) [a, nI c, cc, ee] [] = some (0, 0, (sI M1 121 (12 * Dp + c) (-1))) := by
    rcases ha with w | w <;> subst w
    · exact x_r32b (by rw [sI_ne (by omega)]; exact w8) a2 c2 (by rw [sI_ne (by omega)]; exact k3) b8 e1 hM3 (by omega)
    · exact x_r33b (by rw [sI_ne (by omega)]; exact w8) a2 c2 (by rw [sI_ne (by omega)]; exact k3) b8 e1 hM3 (by omega)
  have sc : PP nf d' 214 (sI T 105 0 (nI (m + 1))) [53, nI i, y] [] = some (0, 0, T1) := by
    rw [c_closeI (c := Dp + 1) (by rw [sI_ne (by omega)]; exact w9) (by omega) i12 (by omega), sI_ne (by omega), k6, e2]
    rfl
  have hG : ∀ b, b ≤ nb → G b = G b := fun _ _ => rfl
  have ho : ∀ r s, ot rg na ng r s → ot rg (frb (Fr Dp) + lvc (fS (Fr Dp)) q0) ng r s := fun r s w => w.cl g5 (by omega)
  have hH1 : HpI G D nb mk rg (frb (Fr Dp) + lvc (fS (Fr Dp)) q0) ng P W (sI M1 121 (12 * Dp + c) (-1)) T1 := e3.eq (fun k hk => sI_ne (by omega)) (fun _ _ _ => rfl)
  have frN : FrO Sf G nb rg (frb (Fr Dp) + lvc (fS (Fr Dp)) q0) ng (sI M1 121 (12 * Dp + c) (-1)) T1 Dp (mkF S' (fρ (Fr Dp)) (fva (Fr Dp)) [] [] (fhs (Fr Dp)) (fit (Fr Dp)) (n + 1) (m + 1) (fbs (Fr Dp)) (fph (Fr Dp)) (frb (Fr Dp)) (ftb (Fr Dp)) (fie (Fr Dp))) := by
    refine ⟨(f1.le h9).mo hG (Nat.le_refl _) ho (fun k s k1 k2 _ => by rw [mO k (by omega) (by omega) (by omega) (by omega) (by omega) (by omega) (by omega) (by omega)]) (fun q _ => by rw [tO 99 (by omega) (by omega) (by omega) (by omega)]), True.intro, f3.sh hT0 ho (fun b _ hb => m121 _ (by omega)) (by rw [sI_v]) (fun w _ => by rw [tO 101 (by omega) (by omega) (by omega) (by omega)]), ?_, HsO.mo _ f5 hG (Nat.le_refl _) ho (fun k s k1 k2 _ => by rw [mO k (by omega) (by omega) (by omega) (by omega) (by omega) (by omega) (by omega) (by omega)]) (fun k q k1 k2 _ => by rw [mO k (by omega) (by omega) (by omega) (by omega) (by omega) (by omega) (by omega) (by omega)]) (fun q _ => by rw [tO 99 (by omega) (by omega) (by omega) (by omega)]) (fun q _ => by rw [tO 103 (by omega) (by omega) (by omega) (by omega)]), ?_⟩
    · obtain ⟨k, k1, k2, k3⟩ := f4
      refine ⟨k, r6.trans k1, k2, fun j hj1 hj2 => ?_⟩
      rw [tO 99 (by omega) (by omega) (by omega) (by omega), mO 122 (by omega) (by omega) (by omega) (by omega) (by omega) (by omega) (by omega) (by omega)]
      exact k3 j hj1 hj2
    · rw [tO 101 (by omega) (by omega) (by omega) (by omega), mO 116 (by omega) (by omega) (by omega) (by omega) (by omega) (by omega) (by omega) (by omega)]
      exact f6
  refine ⟨(sI M1 121 (12 * Dp + c) (-1)), T1, StR.of (a := a) (b := nI c) (cc := cc) (ee := ee) (by rw [w4, hn]) hn2 (by rw [w1]; exact rowR) (by rcases ha with w | w <;> subst w <;> decide) sr, StC.of (op := 53) (x := nI i) (y := y) (r1 := 0) (l1 := 0) (by rw [w5, hm]) (by rw [w3]; exact h51) h6 hm2 (by rw [w2]; exact rowC) (by decide) (by rw [dC_214 (by decide) (by decide) (by decide) (by decide) (by decide)]; exact sc), ⟨by rw [mO 100 (by omega) (by omega) (by omega) (by omega) (by omega) (by omega) (by omega) (by omega)]; exact rn.1, by rw [tO 106 (by omega) (by omega) (by omega) (by omega)]; exact rn.2⟩, ?_⟩
  refine Sim.set cx.1 hc6 hS hH1 ho (fun _ _ => rfl) (Nat.le_refl _) frN hI rfl rfl rfl rfl ⟨?_, ?_, ?_, ?_, ?_, ?_, ?_⟩ (mO 103 (by omega) (by omega) (by omega) (by omega) (by omega) (by omega) (by omega) (by omega)) (tO 102 (by omega) (by omega) (by omega) (by omega)) (mO 114 (by omega) (by omega) (by omega) (by omega) (by omega) (by omega) (by omega) (by omega)) (fun k q hk => ?_) (fun q _ => by rw [tO 101 (by omega) (by omega) (by omega) (by omega)]) (fun q hq => by rw [tO 103 (by omega) (by omega) (by omega) (by omega)]) (fun q hq => by rw [tO 99 (by omega) (by omega) (by omega) (by omega)]) (a7.eq (fun k hk => mO k (by omega) (by omega) (by omega) (by omega) (by omega) (by omega) (by omega) (by omega)) (fun k hk => tO k (by omega) (by omega) (by omega) (by omega))) (a8.eq (fun k hk => mO k (by omega) (by omega) (by omega) (by omega) (by omega) (by omega) (by omega) (by omega)) (fun k hk => tO k (by omega) (by omega) (by omega) (by omega)) (fun q hq => by rw [tO 101 (by omega) (by omega) (by omega) (by omega)])) (a9.eq (fun k hk => mO k (by omega) (by omega) (by omega) (by omega) (by omega) (by omega) (by omega) (by omega)) e5 (fun k hk => tO k (by omega) (by omega) (by omega) (by omega)) e8)
  · rw [mO 109 (by omega) (by omega) (by omega) (by omega) (by omega) (by omega) (by omega) (by omega)]; exact y1
  · rw [tO 100 (by omega) (by omega) (by omega) (by omega)]; exact y2
  · show (frb (Fr Dp) + lvc (fS (Fr Dp)) q0) = frb (Fr Dp) + lvc S' (arn S')
    rw [r3, lv1]
  · rw [mO 123 (by omega) (by omega) (by omega) (by omega) (by omega) (by omega) (by omega) (by omega)]; exact y4
  · rw [tO 104 (by omega) (by omega) (by omega) (by omega)]; exact y5
  · rw [sI_ne (by omega), e4 102 (by omega) (by omega) (by omega) (by omega) (by omega) (by omega), sI_v]
    rfl
  · rw [e7 105 (by omega) (by omega) (by omega), sI_v]
    rfl
  · by_cases k121 : k = 121
    · rw [k121]
      exact m121 q (by omega)
    · rw [mO k (by omega) (by omega) (by omega) (by omega) (by omega) (by omega) (by omega) (by omega)]
/-- the region STEP's end, REGION closed: what is known becomes less */
-/
theorem Sim.lv (hR : Rws Sf) (hc : cn Sf ≤ 6000) (h : Sim M0 T0 Sf G D nb mk rg na ng P W Fr Dp M T) (ht : LvsS Sf (fS (Fr Dp)) S' c) (hI : IvP Sf (fit (Fr Dp)) S' (fst' (Fr Dp)) (fhs (Fr Dp))) : Sim M0 T0 Sf G D nb mk rg na ng P W (updF Fr Dp (mkF S' (fρ (Fr Dp)) (fva (Fr Dp)) (fst' (Fr Dp)) (fov (Fr Dp)) (fhs (Fr Dp)) (fit (Fr Dp)) (fn (Fr Dp)) (fm (Fr Dp)) (fbs (Fr Dp)) (fph (Fr Dp)) (frb (Fr Dp)) (ftb (Fr Dp)) (fie (Fr Dp)))) Dp M T := by
  obtain ⟨fr, iv⟩ := h.fr
  obtain ⟨pf, t1, t2, t3, t4, t5, t6, t7⟩ := ht
  have hS := h
  obtain ⟨a1, ⟨a2, a3, a4⟩, a5, a6, a7, a8, a9, a10⟩ := h
  obtain ⟨y1, y2, y3, y4, y5, y6, y7⟩ := a6
  obtain ⟨f1, f2, f3, f4, f5, f6⟩ := fr
  have lve : lvc (fS (Fr Dp)) (arn (fS (Fr Dp))) = lvc S' (arn S') := by
    rw [t1, lvc, if_neg (fun w => w.2 (by rw [t2]; exact t5)), Nat.add_zero, lvc_pf pf _ (Nat.le_refl _)]
  refine Sim.set hR hc hS a1 (fun _ _ w => w) (fun _ _ => rfl) (Nat.le_refl _) ⟨f1.le t7, f2, RgO.pf f3 pf (fun _ _ w => w) (fun _ _ => rfl) (fun _ _ => rfl), ?_, f5, f6⟩ hI rfl rfl rfl rfl ⟨y1, y2, ?_, y4, y5, y6, y7⟩ rfl rfl rfl (fun _ _ _ => rfl) (fun _ _ => rfl) (fun _ _ => rfl) (fun _ _ => rfl) a7 a8 a9
  · obtain ⟨c, k1, k2, k3⟩ := f4
    exact ⟨c, t6.trans k1, k2, k3⟩
  · show na = frb (Fr Dp) + lvc S' (arn S')
    rw [← lve]
    exact y3
/-- LEAVE, reference only: the REGION was closed */
-/
theorem st_lvR (cx : CxP M0 T0 Sf) (h : Sim M0 T0 Sf G D nb mk rg na ng P W Fr Dp M T) (rn : RnO M T) (hn : fn (Fr Dp) = n) (hn2 : n < 12000) (rowR : rwC4 M0 n = (32, nI c, cc, ee)) (c4 : 4 ≤ c) (c12 : c < 12) (hq : q0 < arn (fS (Fr Dp))) (hq2 : (fS (Fr Dp)).1 85 q0 = nI c) (hl : isLv (fS (Fr Dp)) (nI c) = 0) (hd : 20 ≤ d) : ∃ M' ov', StR nf d M M' ∧ RnO M' T ∧ Sim M0 T0 Sf G D nb mk rg na ng P W (updF Fr Dp (mkF (fS (Fr Dp)) (fρ (Fr Dp)) (fva (Fr Dp)) (fst' (Fr Dp)) ov' (fhs (Fr Dp)) (fit (Fr Dp)) (n + 1) (fm (Fr Dp)) (fbs (Fr Dp)) (fph (Fr Dp)) (frb (Fr Dp)) (ftb (Fr Dp)) (fie (Fr Dp)))) Dp M' T := by
  obtain ⟨w1, w2, w3, w4, w5, w6, w7, w8, w9⟩ := h.rw (n := n) (m := fm (Fr Dp))
  have hc6 : cn Sf ≤ 6000 := by have := cx.2.1; omega
  obtain ⟨ov', hs⟩ := ex_pop (n := n + 1) (m := fm (Fr Dp)) (st := []) (s0 := fst' (Fr Dp)) cx.1 hc6 h rfl h.fr.2
  rw [sI_idx (M := T) (k := 100) w7, sI_idx (M := T) (k := 105) w5, sI_idx (M := M) (k := 109) w6] at hs
  have k3 := (h.fr.1.2.2.1.2.1 q0 c hq hq2 c4 c12).2.2
  unfold RgQx at k3
  rw [if_pos hl] at k3
  refine ⟨sI M 102 0 (nI (n + 1)), ov', StR.of (a := 32) (b := nI c) (cc := cc) (ee := ee) (r1 := 0) (l1 := 0) (by rw [w4, hn]) hn2 (by rw [w1]; exact rowR) (by decide) ?_, ⟨by rw [sI_ne (by omega)]; exact rn.1, rn.2⟩, hs⟩
  rw [x_r32a (e := Dp) (by rw [sI_ne (by omega)]; exact w8) h.2.1.1 c12 (by rw [sI_ne (by omega)]; exact k3) (by omega), sI_idx (by rw [sI_ne (by omega)]; exact k3)]
end STB
