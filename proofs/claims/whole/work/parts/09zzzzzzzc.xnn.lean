/-! nn and size, cell and row -/
section CYC
variable {R : RgR} {S S' S1 S2 T T' T1 T2 : gSt} {X : Lx} {nf d i k n m t e w c a b q g f h r s y z lo hi dd mb y1 y2 kd kw kw1 lv : Nat} {x v x' pl u1 u2 u3 : Int32} {sl : Int32 → Int32} {ta tb tr : Tr} {zz j : T5} {js js2 : List T5}
/-- one instruction more -/
theorem XOk.ap1 (a2 : TyF S S1 T T1) (a4 : T1.1 51 0 = nI (n + (ksE js).length)) (a5 : KrL R sl S1 T1 (ksE js) n) (a6 : (ksE js).length ≤ kw1) (a7 : kGo js) (hn : n + kw1 + 1 ≤ 6032) (fx : FX T1 T2) (fe : FE S1 S2) (b1 : XR R sl X S2 T2) (b2 : TyF S1 S2 T1 T2) (b3 : ∃ h, TyR R S2 T2 h x y) (b4 : T2.1 51 0 = nI (n + (ksE js).length + 1)) (b5 : KrO R sl S2 T2 j (n + (ksE js).length)) (n7 : ¬ j.1 = 7) (hkw : kw1 + 1 ≤ kw) (hlv : lvC T2 16384 ≤ lvC T 16384 + lv) : XOk R sl X S T (x, v, js ++ [j], S2) kw lv n y T2 := by
  have ek := ksE_n (js := js) n7
  refine Or.inl ⟨b1, a2.tr b2, b3, ?_, ?_, ?_, a7.nx n7, hlv⟩
  · dsimp only
    rw [ek, List.length_append]
    exact b4
  · dsimp only
    rw [ek]
    exact KrL.ap _ _ _ (a5.fx b2 fe fx a4 (by omega)) ⟨b5, trivial⟩
  · dsimp only
    rw [ek, List.length_append]
    show _ + 1 ≤ _
    omega
/-- what an own node with one EXPR in it holds -/
theorem e8_u (hP : CeP X T (tD 8 i e ta tb) 0 lo hi z m dd d a b) : z = 0 ∧ lo < hi ∧ T.1 11 lo = nI (xK X i) ∧ T.1 12 lo = nI i ∧ T.1 17 lo = nI (lo + 1) ∧ 1 ≤ m ∧ XG X ta (m - 1) 1 ∧ ((xK X i = 29 ∨ xK X i = 30) ∧ xK X (i + 1) = 4 ∨ xK X i = 31 ∨ xK X i = 32) ∧ (xK X i = 30 → XG X tb (m - 1) 1) ∧ (if xK X i = 30 then ∃ mm c c2, lo + 1 < mm ∧ mm < hi ∧ cRX T (RcG X T ta) (lo + 1) mm ∧ T.1 14 (lo + 1) = nI mm ∧ cRX T (RcG X T tb) mm hi ∧ Wf X ta false (i + 3) c ∧ Wf X tb false (c + 1) c2 ∧ c2 ≤ xn X ∧ c ≤ xn X else ∃ c a', cRX T (RcG X T ta) (lo + 1) hi ∧ Wf X ta false a' c ∧ c ≤ xn X) ∧ i + 1 < xn X := by
  obtain ⟨p1, p2, p3, p4, p5, p6, p7, p8, p9⟩ := hP
  rw [RcG_n] at p1
  unfold RcN Rc0 at p1
  rw [if_neg (by omega), if_neg (by omega), if_neg (by omega), if_neg (by omega), if_neg (by omega), if_neg (by omega), if_neg (by omega), if_neg (by omega), if_pos rfl] at p1
  obtain ⟨r1, r2, r3, r4, r5, r6⟩ := p1
  rw [XG_n] at p6
  unfold xgN at p6
  rw [if_neg (by omega), if_neg (by omega), if_neg (by omega), if_neg (by omega), if_neg (by omega), if_neg (by omega), if_neg (by omega), if_neg (by omega), if_pos rfl] at p6
  obtain ⟨g1, g2, g3, g4⟩ := p6
  rw [Wf_n] at p4
  unfold WfN at p4
  rw [if_neg (by decide), if_neg (by omega), if_neg (by omega), if_neg (by omega), if_neg (by omega), if_neg (by omega), if_neg (by omega), if_neg (by omega), if_pos rfl] at p4
  obtain ⟨f1, f2⟩ := p4
  have fin : (if xK X i = 30 then ∃ mm c c2, lo + 1 < mm ∧ mm < hi ∧ cRX T (RcG X T ta) (lo + 1) mm ∧ T.1 14 (lo + 1) = nI mm ∧ cRX T (RcG X T tb) mm hi ∧ Wf X ta false (i + 3) c ∧ Wf X tb false (c + 1) c2 ∧ c2 ≤ xn X ∧ c ≤ xn X else ∃ c a', cRX T (RcG X T ta) (lo + 1) hi ∧ Wf X ta false a' c ∧ c ≤ xn X) ∧ i + 1 < xn X := by
    by_cases c30 : xK X i = 30
    · rw [if_neg (by omega), if_pos c30] at f2
      rw [if_pos c30] at r6 ⊢
      obtain ⟨c, d', f3, f4, f5⟩ := f2
      have l1 := (Wf_le _ false _ _ f3).1 rfl
      have l2 := (Wf_le _ false _ _ f4).1 rfl
      obtain ⟨mm, m1, m2, m3, m4, m5⟩ := r6
      exact ⟨⟨mm, c, d', m1, m2, m3, m4, m5, f3, f4, by omega, by omega⟩, by omega⟩
    · rw [if_neg c30] at r6 ⊢
      by_cases c29 : xK X i = 29
      · rw [if_pos c29] at f2
        obtain ⟨c, f3, f4⟩ := f2
        have l1 := (Wf_le _ false _ _ f3).1 rfl
        exact ⟨⟨c, _, r6, f3, by omega⟩, by omega⟩
      · rw [if_neg c29, if_neg c30] at f2
        obtain ⟨c, f3, f4⟩ := f2
        have l1 := (Wf_le _ false _ _ f3).1 rfl
        exact ⟨⟨c, _, r6, f3, by omega⟩, by omega⟩
  exact ⟨r2, r1, r3, r4, r5, g1, g2, g3, g4, fin⟩
theorem em_2 (h : ∃ c, T.1 51 0 = nI c ∧ c ≤ 6032) (hd : 1 ≤ d) {rr : Int32} (hp : PP nf d 51 T [u1, u2, u3] [] = some (rr, 0, T')) : T'.2 = T.2 := by
  obtain ⟨c, c1, c2⟩ := h
  by_cases cc : c < 6032
  · rw [c_emit c1 cc hd] at hp
    simp only [Option.some.injEq, Prod.mk.injEq, true_and] at hp
    rw [← hp.2]
    rfl
  · obtain ⟨r, hr⟩ := c_emit0 (nf := nf) (d := d) (a := u1) (b := u2) (w := u3) c1 (by omega) (by omega) hd
    rw [hr] at hp
    simp only [Option.some.injEq, Prod.mk.injEq, true_and] at hp
    rw [← hp.2]
/-- nn -/
theorem p_nn (hX : XO X) (hnf : 16385 ≤ nf) (hA : CE1 nf X ta) (hK : xK X i = 31) (hP : CeP X T (tD 8 i e ta tb) 0 lo hi z m dd d a b) : wp (PP nf d 156 T [nI lo, nI dd] []) (fun r _ T' => ∃ y, r = nI y ∧ CeQ X T (tD 8 i e ta tb) y T') := by
  obtain ⟨u1, u2, u3, u4, u5, u6, u7, u8, u9, u10, u11⟩ := e8_u hP
  have hxn := hX.1
  have hwf := hP.2.2.2.1
  have hb := hP.2.2.2.2.1
  obtain ⟨p1, p2, p3, p4, p5, p6, p7, p8, p9⟩ := hP
  rw [if_neg (by omega)] at u10
  obtain ⟨c, a', ⟨yl, c1, c2⟩, c3, c4⟩ := u10
  obtain ⟨d, rfl⟩ : ∃ g, d = g + 3 := ⟨d - 3, by omega⟩
  rw [e_156 (d := d + 2) (by omega) u4, u3, hK]
  simp only [show ¬ nI 31 = (2 : Int32) by decide, show ¬ nI 31 = (5 : Int32) by decide, show ¬ nI 31 = (27 : Int32) by decide, show ¬ nI 31 = (28 : Int32) by decide, show ¬ nI 31 = (29 : Int32) by decide, show ¬ nI 31 = (30 : Int32) by decide, show nI 31 = (31 : Int32) from rfl, if_false, if_true]
  have zl : inb (nI lo) 4008 := nin (by omega) (by omega)
  rw [e_Exprs_checkSolid _ (d + 1)]
  unfold rb_Exprs_checkSolid
  rw [gd, if_pos zl, nc (by omega), vK, u5, nI_1]
  refine wp_bi (R := fun r _ T' => ∃ y, r = nI y ∧ CeQ X T (tD 8 i e ta tb) y T') ?_ (fun r _ T' h => wp_some h)
  refine wp_bi (hA.run (d := d) (m := m - 1) (dd := dd + 1) hnf hX ⟨c1, by omega, p3, c3, c4, u7, by omega, by omega, p9⟩ (by omega) c2) ?_
  intro r _ T3 ⟨y, y1, y2, y3, y4⟩
  have yl' := y2.lt
  have x3 := p9.fx y3
  rw [y1, c_isPointed (by omega) (by omega), bis]
  have ech : ∀ S : gSt, S.1 7 0 = 0 → chk X (tD 8 i e ta tb) 0 0 S = nnC X (chk X ta) ta S := fun S h0 => by
    rw [chk_n, if_pos h0]
    show (if xK X i = 29 then _ else if xK X i = 30 then _ else if xK X i = 31 then _ else _) = _
    rw [if_neg (by omega), if_neg (by omega), if_pos hK]
  have ekw : kwT (tD 8 i e ta tb) = kwT ta + kwT tb + 1 := rfl
  have elv : lvT X (tD 8 i e ta tb) = lvT X ta + lvT X tb + 1 := rfl
  -- what the spec says of the inner EXPR
  have inn : ∀ (R : RgR) (sl : Int32 → Int32) (S : gSt) (n : Nat), XR R sl X S T → Rm X (chk X (tD 8 i e ta tb) 0 0 S).2.2.2 T (tD 8 i e ta tb) n → XQ R sl X S T ta 0 0 n y T3 := by
    intro R sl S n hR ⟨o1, o2, o3, o4⟩
    refine y4 R sl S n hR ⟨o1, by omega, by omega, ?_⟩
    rw [ech S hR.h0] at o4
    unfold nnC at o4
    have tg1 := (chk_fe ta 0 0 S : FE S (chk X ta 0 0 S).2.2.2).tg hR.2.1.1
    dsimp only at o4
    split at o4
    · split at o4
      · exact (FE.fl (by decide) : FE (chk X ta 0 0 S).2.2.2 _).lt tg1 o4
      · exact (FE.nu.tr FE.kn : FE (chk X ta 0 0 S).2.2.2 _).lt tg1 o4
    · exact o4
  by_cases cp : kdC T3 y = 3 ∨ kdC T3 y = 4
  · rw [if_pos cp, if_neg (by decide), c_null (by omega) (by omega), bis]
    generalize hT5 : (if kdC T3 y = 4 then sI T3 52 3 (T3.1 52 3 + 1) else T3) = T5
    have f5 : FX T3 T5 := by rw [← hT5]; exact FX.nl y3.2.2.1
    have n5 := nl_52 (T := T3) (y := y)
    rw [hT5] at n5
    obtain ⟨r6, T6, m1, m2, m3⟩ := a_emit (nf := nf) (d := d + 1) (T := T5) (x := 23) (y := 0) (z := 0) f5.2.2.1 ((x3.fx f5).2.2.2.2.2.1) (by omega)
    have f36 := f5.tr m2
    have k6 : kdC T6 y = kdC T3 y := by
      have := em_2 ((x3.fx f5).2.2.2.2.2.1) (by omega) m1
      unfold kdC kO SW
      rw [this, n5.1]
    rw [m1, bis]
    obtain ⟨zt, T7, s1, s2, s3, s4⟩ := solid_ab (nf := nf) (d := d + 1) (T := T6) hnf f36.2.2.1 (f36.2.2.2.1 _ y2) (by rw [k6]; exact cp) (by omega)
    rw [s1, bis]
    have f37 := f36.tr s3.fx
    refine wp_some ⟨zt, rfl, s2, y3.tr f37, fun R sl S n hR hm => ?_⟩
    have qq := inn R sl S n hR hm
    obtain ⟨o1, o2, o3, o4⟩ := hm
    have ck := ck_of hX hwf hb hR.2.1 o4
    unfold XQ
    rw [ekw] at o2 ⊢
    rw [elv] at o3 ⊢
    rw [ech S hR.h0] at o4 ck ⊢
    unfold nnC at o4 ck ⊢
    unfold XQ XOk at qq
    rcases qq with ⟨a1, a2, ⟨h1, a3⟩, a4, a5, a6, a7, a8⟩ | hBf
    · have np : ¬ isPt (chk X ta 0 0 S).2.2.2 (chk X ta 0 0 S).1 = 0 := fun w => a3.pt.mp w cp
      dsimp only at o4 ck ⊢
      rw [if_pos a1.h0, if_neg np] at o4 ck ⊢
      have e6 := m3 _ (by rw [n5.2 51 0 (by omega)]; exact a4) (by omega)
      have ctr := (a1.2.2.2.2.2.2.2.2.2.2).nl a3 cp
      rw [hT5] at ctr
      have tg1 : Tg (nuS (chk X ta 0 0 S).2.2.2 (chk X ta 0 0 S).1) := FE.nu.tg a1.2.1.1
      have c1' : cn (chk X ta 0 0 S).2.2.2 < 6000 := (FE.nu.tr FE.kn : FE (chk X ta 0 0 S).2.2.2 _).lt a1.2.1.1 o4
      obtain ⟨b1, b2, b3, b4, b5⟩ := a1.em (S2 := nuS (chk X ta 0 0 S).2.2.2 (chk X ta 0 0 S).1) (T5 := T5) (u1 := 23) (u2 := 0) (u3 := 0) a4 (by omega) nu_o rfl n5.1 n5.2 (a1.2.1.wr (by omega) c1') ctr
      rw [← e6] at b1 b2 b3 b5
      have ez : slZ (nuS (chk X ta 0 0 S).2.2.2 (chk X ta 0 0 S).1) (chk X ta 0 0 S).1 = (1, tf (chk X ta 0 0 S).2.2.2 67 (chk X ta 0 0 S).1, tf (chk X ta 0 0 S).2.2.2 68 (chk X ta 0 0 S).1, tf (chk X ta 0 0 S).2.2.2 69 (chk X ta 0 0 S).1, tf (chk X ta 0 0 S).2.2.2 70 (chk X ta 0 0 S).1) := by
        unfold slZ tf
        rw [nu_o 67 (by omega), nu_o 68 (by omega), nu_o 69 (by omega), nu_o 70 (by omega)]
      rw [← ez] at o4 ck ⊢
      obtain ⟨v1, v2, v3, v4⟩ := s4 R _ (chk X ta 0 0 S).1 h1 (TyR.mo b2 (fun _ _ z => z) _ _ _ a3) tg1 (by omega) o4
      refine XOk.ap1 (kw1 := kwT ta) a2 a4 a5 a6 a7 (by omega) f37 (FE.nu.tr FE.kn) (b1.kn s3 v2 ck) (b2.tr v2) ⟨h1, v1⟩ (by rw [s3.1, e6]; exact em_51) (KrO_12 ?_) (by show ¬ (12 : Int32) = 7; decide) (by omega) (by omega)
      unfold cw3
      rw [s3.1]
      show cw3 T6 _ = _
      rw [e6]
      exact em_row
    · dsimp only
      rw [if_neg hBf.1]
      exact Or.inr (hBf.fx f37)
  · rw [if_neg cp, if_pos rfl, x_begin (nf := nf) (d := d + 1) hX hnf x3.1 (c1.fx y3) p3 u7 (by omega) c3 c4 (by omega), bis, c_note (by omega), bis]
    refine wp_some ⟨1, rfl, tyY_1, y3.tr (FX.nt y3.2.2.1), fun R sl S n hR hm => ?_⟩
    have qq := inn R sl S n hR hm
    unfold XQ
    rw [ech S hR.h0]
    unfold nnC
    unfold XQ XOk at qq
    rcases qq with ⟨a1, a2, ⟨h1, a3⟩, _⟩ | hBf
    · dsimp only
      rw [if_pos a1.h0, if_pos (a3.pt.mpr cp)]
      exact Or.inr (bf_nt (a := 4) a1.h0 a1.h53 (by decide))
    · dsimp only
      rw [if_neg hBf.1]
      exact Or.inr (hBf.fx (FX.nt y3.2.2.1))
/-- size -/
theorem p_size (hX : XO X) (hnf : 16385 ≤ nf) (hA : CE1 nf X ta) (hK : xK X i = 32) (hP : CeP X T (tD 8 i e ta tb) 0 lo hi z m dd d a b) : wp (PP nf d 156 T [nI lo, nI dd] []) (fun r _ T' => ∃ y, r = nI y ∧ CeQ X T (tD 8 i e ta tb) y T') := by
  obtain ⟨u1, u2, u3, u4, u5, u6, u7, u8, u9, u10, u11⟩ := e8_u hP
  have hxn := hX.1
  obtain ⟨p1, p2, p3, p4, p5, p6, p7, p8, p9⟩ := hP
  rw [if_neg (by omega)] at u10
  obtain ⟨c, a', ⟨yl, c1, c2⟩, c3, c4⟩ := u10
  obtain ⟨d, rfl⟩ : ∃ g, d = g + 3 := ⟨d - 3, by omega⟩
  rw [e_156 (d := d + 2) (by omega) u4, u3, hK]
  simp only [show ¬ nI 32 = (2 : Int32) by decide, show ¬ nI 32 = (5 : Int32) by decide, show ¬ nI 32 = (27 : Int32) by decide, show ¬ nI 32 = (28 : Int32) by decide, show ¬ nI 32 = (29 : Int32) by decide, show ¬ nI 32 = (30 : Int32) by decide, show ¬ nI 32 = (31 : Int32) by decide, show nI 32 = (32 : Int32) from rfl, if_false, if_true]
  have zl : inb (nI lo) 4008 := nin (by omega) (by omega)
  rw [e_Exprs_checkSize _ (d + 1)]
  unfold rb_Exprs_checkSize
  rw [gd, if_pos zl, nc (by omega), vK, u5, nI_1]
  refine wp_bi (R := fun r _ T' => ∃ y, r = nI y ∧ CeQ X T (tD 8 i e ta tb) y T') ?_ (fun r _ T' h => wp_some h)
  refine wp_bi (hA.run (d := d) (m := m - 1) (dd := dd + 1) hnf hX ⟨c1, by omega, p3, c3, c4, u7, by omega, by omega, p9⟩ (by omega) c2) ?_
  intro r _ T3 ⟨y, y1, y2, y3, y4⟩
  have yl' := y2.lt
  have x3 := p9.fx y3
  have kl := kdC_lt (T := T3) (y := y)
  have q5 : (nI (kdC T3 y) = (5 : Int32)) = (kdC T3 y = 5) := ci_eq (j := 5) (by omega) (by omega)
  rw [y1, c_kindOf (by omega) (by omega), bis]
  have ech : ∀ S : gSt, S.1 7 0 = 0 → chk X (tD 8 i e ta tb) 0 0 S = szC X (chk X ta) ta S := fun S h0 => by
    rw [chk_n, if_pos h0]
    show (if xK X i = 29 then _ else if xK X i = 30 then _ else if xK X i = 31 then _ else _) = _
    rw [if_neg (by omega), if_neg (by omega), if_neg (by omega)]
  have ekw : kwT (tD 8 i e ta tb) = kwT ta + kwT tb + 1 := rfl
  have elv : lvT X (tD 8 i e ta tb) = lvT X ta + lvT X tb + 1 := rfl
  have inn : ∀ (R : RgR) (sl : Int32 → Int32) (S : gSt) (n : Nat), XR R sl X S T → Rm X (chk X (tD 8 i e ta tb) 0 0 S).2.2.2 T (tD 8 i e ta tb) n → XQ R sl X S T ta 0 0 n y T3 := by
    intro R sl S n hR ⟨o1, o2, o3, o4⟩
    refine y4 R sl S n hR ⟨o1, by omega, by omega, ?_⟩
    rw [ech S hR.h0] at o4
    unfold szC at o4
    have tg1 := (chk_fe ta 0 0 S : FE S (chk X ta 0 0 S).2.2.2).tg hR.2.1.1
    dsimp only at o4
    split at o4
    · split at o4
      · exact (FE.fl (by decide) : FE (chk X ta 0 0 S).2.2.2 _).lt tg1 o4
      · exact o4
    · exact o4
  have tail : ∀ y0 : Int32, ∃ T6, rj_Exprs_checkSize_39 (PP nf (d + 1)) nf T3 (nI (lo + 1)) y0 = some (1, 0, T6) ∧ FX (if y0 = 0 then ntS T3 4 (plT X ta) else T3) T6 ∧ ∀ n, T3.1 51 0 = nI n → n < 6032 → ¬ y0 = 0 → T6 = emS T3 n 8 0 0 := by
    intro y0
    unfold rj_Exprs_checkSize_39
    rw [x_begin (nf := nf) (d := d + 1) hX hnf x3.1 (c1.fx y3) p3 u7 (by omega) c3 c4 (by omega), bis, c_dem (by omega), bis]
    generalize hT9 : (if y0 = 0 then ntS T3 4 (plT X ta) else T3) = T9
    have f9 : FX T3 T9 := by rw [← hT9]; exact FX.dm y3.2.2.1
    obtain ⟨r, T', m1, m2, m3⟩ := a_emit (nf := nf) (d := d + 1) (T := T9) (x := 8) (y := 0) (z := 0) f9.2.2.1 ((x3.fx f9).2.2.2.2.2.1) (by omega)
    rw [m1, bis]
    refine ⟨T', rfl, m2, fun n hn hn2 h0 => ?_⟩
    have eT : T9 = T3 := by rw [← hT9, if_neg h0]
    rw [eT] at m3
    exact m3 n hn hn2
  by_cases c5 : kdC T3 y = 5
  · rw [if_pos (q5.mpr c5)]
    obtain ⟨T6, g1, g2, g3⟩ := tail 1
    rw [g1]
    rw [if_neg (by decide)] at g2
    refine wp_some ⟨1, rfl, tyY_1, y3.tr g2, fun R sl S n hR hm => ?_⟩
    have qq := inn R sl S n hR hm
    obtain ⟨o1, o2, o3, o4⟩ := hm
    unfold XQ
    rw [ekw] at o2 ⊢
    rw [elv] at o3 ⊢
    rw [ech S hR.h0]
    unfold szC
    unfold XQ XOk at qq
    rcases qq with ⟨a1, a2, ⟨h1, a3⟩, a4, a5, a6, a7, a8⟩ | hBf
    · have nr : ¬ isRo (chk X ta 0 0 S).2.2.2 (chk X ta 0 0 S).1 = 0 := fun w => a3.ro.mp w c5
      dsimp only
      rw [if_pos a1.h0, if_neg nr]
      have e6 := g3 _ a4 (by omega) (by decide)
      obtain ⟨b1, b2, b3, b4, b5⟩ := a1.em (S2 := (chk X ta 0 0 S).2.2.2) (T5 := T3) (u1 := 8) (u2 := 0) (u3 := 0) a4 (by omega) (fun _ _ => rfl) rfl rfl (fun _ _ _ => rfl) a1.2.1 a1.2.2.2.2.2.2.2.2.2.2
      rw [← e6] at b1 b2 b3 b5
      exact XOk.ap1 (kw1 := kwT ta) a2 a4 a5 a6 a7 (by omega) g2 FE.rf b1 b2 ⟨0, Or.inl ⟨rfl, rfl⟩⟩ (by rw [e6]; exact em_51) (KrO_13 (by rw [e6]; exact em_row)) (by show ¬ (13 : Int32) = 7; decide) (by omega) (by omega)
    · dsimp only
      rw [if_neg hBf.1]
      exact Or.inr (hBf.fx g2)
  · rw [if_neg (fun w => c5 (q5.mp w))]
    obtain ⟨T6, g1, g2, g3⟩ := tail 0
    rw [g1]
    rw [if_pos rfl] at g2
    have f36 := (FX.nt (x := 4) (y := plT X ta) y3.2.2.1).tr g2
    refine wp_some ⟨1, rfl, tyY_1, y3.tr f36, fun R sl S n hR hm => ?_⟩
    have qq := inn R sl S n hR hm
    unfold XQ
    rw [ech S hR.h0]
    unfold szC
    unfold XQ XOk at qq
    rcases qq with ⟨a1, a2, ⟨h1, a3⟩, _⟩ | hBf
    · dsimp only
      rw [if_pos a1.h0, if_pos (a3.ro.mpr c5)]
      exact Or.inr ((bf_nt (a := 4) a1.h0 a1.h53 (by decide)).fx g2)
    · dsimp only
      rw [if_neg hBf.1]
      exact Or.inr (hBf.fx f36)
end CYC
