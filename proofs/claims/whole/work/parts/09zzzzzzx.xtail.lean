/-! what follows a PRIMARY -/
/-- what a tail without an index does, on both sides -/
def TlB (X : Lx) (i : Nat) (pl : Int32) (T1 T2 : gSt) (y1 y2 : Nat) : Prop := ∀ R sl S n h x, XR R sl X S T1 → TyR R S T1 h x y1 → T1.1 51 0 = nI n → n < 6032 → lvC T1 16384 + 30 < 16384 → cn (thC S (tlK X i) x (xN X (i + 1)) pl (nI (xP X (i + 1)))).2.2 < 6000 → Ck (thC S (tlK X i) x (xN X (i + 1)) pl (nI (xP X (i + 1)))).2.2 → BfR (thC S (tlK X i) x (xN X (i + 1)) pl (nI (xP X (i + 1)))).2.2 T2 ∨ (XR R sl X (thC S (tlK X i) x (xN X (i + 1)) pl (nI (xP X (i + 1)))).2.2 T2 ∧ TyF S (thC S (tlK X i) x (xN X (i + 1)) pl (nI (xP X (i + 1)))).2.2 T1 T2 ∧ (∃ h, TyR R (thC S (tlK X i) x (xN X (i + 1)) pl (nI (xP X (i + 1)))).2.2 T2 h (thC S (tlK X i) x (xN X (i + 1)) pl (nI (xP X (i + 1)))).1 y2) ∧ T2.1 51 0 = nI (n + 1) ∧ KrO R sl (thC S (tlK X i) x (xN X (i + 1)) pl (nI (xP X (i + 1)))).2.2 T2 (j1 (if xK X i = 49 then 6 else if xK X i = 61 then 10 else 11) (thC S (tlK X i) x (xN X (i + 1)) pl (nI (xP X (i + 1)))).2.1 x (thC S (tlK X i) x (xN X (i + 1)) pl (nI (xP X (i + 1)))).1 0) n ∧ lvC T2 16384 ≤ lvC T1 16384 + tw X i)
section CXX
variable {R : RgR} {S S' S1 S2 T T' T1 T2 T5 : gSt} {X : Lx} {nf d i k n m t e w c a b q g f h r s y z y1 y2 : Nat} {x v x' pl : Int32} {sl : Int32 → Int32} {ta tb tr : Tr}
theorem tl_b (hX : XO X) (hw : Wf X (tD 3 i e ta tb) false a b) (hb : b ≤ xn X) (hA : CeQ X T ta y1 T1) (hF : FX T1 T2) (hy : tyY T2 y2) (hB : TlB X i (plT X ta) T1 T2 y1 y2) : CeQ X T (tD 3 i e ta tb) y2 T2 := by
  refine ⟨hy, hA.2.1.tr hF, fun R sl S n hR hm => ?_⟩
  obtain ⟨m1, m2, m3, m4⟩ := hm
  have ekw : kwT (tD 3 i e ta tb) = kwT ta + 1 := rfl
  have elv : lvT X (tD 3 i e ta tb) = lvT X ta + tw X i := rfl
  have ck := ck_of hX hw hb hR.2.1 m4
  have ech : chk X (tD 3 i e ta tb) 0 0 S = tlC X (chk X ta) ta i S := by rw [chk_n, if_pos hR.h0]; rfl
  unfold XQ
  rw [ekw] at m2 ⊢
  rw [elv] at m3 ⊢
  rw [ech] at m4 ck ⊢
  unfold tlC at m4 ck ⊢
  have fe1 : FE S (chk X ta 0 0 S).2.2.2 := chk_fe ta 0 0 S
  have cA : cn (chk X ta 0 0 S).2.2.2 < 6000 := by
    dsimp only at m4
    split at m4
    · exact FE.th.lt (fe1.tg hR.2.1.1) m4
    · exact m4
  have qA := hA.2.2 R sl S n hR ⟨m1, by omega, by omega, cA⟩
  unfold XQ XOk at qA
  rcases qA with ⟨a1, a2, ⟨h1, a3⟩, a4, a5, a6, a7, a8⟩ | hBf
  · dsimp only at m4 ck ⊢
    rw [if_pos a1.h0] at m4 ck ⊢
    rcases hB R sl _ (n + (ksE (chk X ta 0 0 S).2.2.1).length) h1 _ a1 a3 a4 (by omega) (by omega) m4 ck with q | ⟨b1, b2, b3, b4, b5, b6⟩
    · exact Or.inr q
    · have n7 : ¬ (j1 (if xK X i = 49 then 6 else if xK X i = 61 then 10 else 11) (thC (chk X ta 0 0 S).2.2.2 (tlK X i) (chk X ta 0 0 S).1 (xN X (i + 1)) (plT X ta) (nI (xP X (i + 1)))).2.1 (chk X ta 0 0 S).1 (thC (chk X ta 0 0 S).2.2.2 (tlK X i) (chk X ta 0 0 S).1 (xN X (i + 1)) (plT X ta) (nI (xP X (i + 1)))).1 0).1 = 7 := by
        show ¬ (if xK X i = 49 then (6 : Int32) else if xK X i = 61 then 10 else 11) = 7
        split
        · decide
        · split <;> decide
      have ek := ksE_n (js := (chk X ta 0 0 S).2.2.1) n7
      refine Or.inl ⟨b1, a2.tr b2, b3, ?_, ?_, ?_, a7.nx n7, by omega⟩
      · dsimp only
        rw [ek, List.length_append]
        exact b4
      · dsimp only
        rw [ek]
        exact KrL.ap _ _ _ (a5.fx b2 FE.th hF a4 (by omega)) ⟨b5, trivial⟩
      · dsimp only
        rw [ek, List.length_append]
        exact Nat.add_le_add_right a6 1
  · dsimp only
    rw [if_neg hBf.1]
    exact Or.inr (hBf.fx hF)
/-- one step of the loop over tails -/
theorem t44_s {st dd cnt fl : Nat} {bg : Int32} (hz1 : 1 ≤ z) (hz : z < 4008) (hs : st = 0 ∨ z < st) (hst : st < 4008) (hc : cnt < 4000) : rl_Exprs_checkTerm_44 (PP nf d) nf (fl + 1) T (nI st) (nI dd) (nI y) bg (nI z) (nI cnt) = if T.1 11 z = 33 then (bi (PP nf d 155 T [nI z, nI y, bg] []) fun r21 _ T21 => rl_Exprs_checkTerm_44 (PP nf d) nf fl T21 (nI st) (nI dd) r21 bg (T21.1 13 z) (nI (cnt + 1))) else (bi (PP nf d 149 T [nI z, nI y, bg, (0 : Int32), nI dd] []) fun r17 _ T17 => rl_Exprs_checkTerm_44 (PP nf d) nf fl T17 (nI st) (nI dd) r17 bg (T17.1 13 z) (nI (cnt + 1))) := by
  have zz : inb (nI z) 4008 := nin hz (by omega)
  rw [rl_Exprs_checkTerm_44, if_neg (fun w => by have := nI_inj (a := z) (b := 0) (by omega) (by omega) w; omega), if_neg (fun w => by have := nI_inj (by omega) (by omega) w; omega), if_neg (fun w => by have := (nI_leI (a := 4000) (b := cnt) (by omega) (by omega)).mp w; omega)]
  simp only [gd, if_pos zz, vK, nI_1, nc (show z < 100000 by omega)]
/-- a tail . ^ is -/
theorem e_tl3 (hX : XO X) (hnf : 16385 ≤ nf) (hA : CE0 nf X ta) : CE0 nf X (tD 3 i e ta tb) := by
  intro T lo hi z a b m dd d stop Q hP hs1 hs2 hQ
  obtain ⟨p1, p2, p3, p4, p5, p6, p7, p8, p9⟩ := hP
  have hxn := hX.1
  rw [RcG_n] at p1
  unfold RcN Rc0 at p1
  rw [if_neg (by omega), if_neg (by omega), if_neg (by omega), if_neg (by omega), if_pos rfl] at p1
  obtain ⟨r1, r2, ⟨z', r3, r4⟩, r5, r6⟩ := p1
  have p6' := p6
  rw [XG_n] at p6
  unfold xgN at p6
  rw [if_neg (by omega), if_neg (by omega), if_neg (by omega), if_pos rfl] at p6
  obtain ⟨g1, g2⟩ := p6
  have p4' := p4
  rw [Wf_n] at p4
  unfold WfN at p4
  rw [if_neg (by decide), if_neg (by omega), if_neg (by omega), if_pos rfl] at p4
  obtain ⟨f1, f2⟩ := p4
  have tl := tl_le ta a i f1
  have kl : xK X i < 63 := (hX.2 i).2
  have i1 : (xK X i = 49 ∨ xK X i = 33) → i + 1 < xn X := fun w => by
    refine Decidable.byContradiction fun v => ?_
    have := ((hX.2 (i + 1)).1 (by omega)).1
    omega
  refine hA T lo z z' a i m dd d stop Q ⟨r3, p2, by omega, f1, by omega, g1, p7, p8, p9⟩ (by omega) hs2 ?_
  intro y1 T1 hq
  have fx1 := hq.2.1
  have lk : (if z' = 0 then T.1 18 lo else T.1 13 z') = nI z := by
    unfold lkT at r4
    split
    · rename_i c0
      rw [if_pos c0] at r4
      exact r4
    · rename_i c0
      rw [if_neg c0] at r4
      exact r4
  have x1 := p9.fx fx1
  obtain ⟨fl, hfl⟩ : ∃ g, nf - tlN ta = g + 1 := ⟨nf - tlN ta - 1, by omega⟩
  rw [lk, hfl, t44_s (by omega) (by omega) (by omega) hs2 (by omega), fx1.o (k := 11) (by omega), r5]
  have efl : fl = nf - tlN (tD 3 i e ta tb) := by rw [tlN_n, if_pos (Or.inl rfl)]; omega
  have ebg : bgT (tD 3 i e ta tb) = bgT ta := rfl
  have etl : tlN (tD 3 i e ta tb) = tlN ta + 1 := rfl
  have z0 : ¬ z = 0 := by omega
  -- the loop goes on
  have go : ∀ y2 T2, FX T1 T2 → tyY T2 y2 → TlB X i (plT X ta) T1 T2 y1 y2 → wp (rl_Exprs_checkTerm_44 (PP nf d) nf fl T2 (nI stop) (nI dd) (nI y2) (nI (xP X (bgT ta))) (T2.1 13 z) (nI (tlN ta + 1))) Q := by
    intro y2 T2 f2 h2 hB
    have := hQ y2 T2 (tl_b hX p4' p5 hq f2 h2 hB)
    rw [if_neg z0, ← efl, ebg, etl] at this
    rw [f2.o (k := 13) (by omega), fx1.o (k := 13) (by omega)]
    exact this
  have q33 : (nI (xK X i) = (33 : Int32)) = (xK X i = 33) := ci_eq (j := 33) (by omega) (by omega)
  have t12 : T1.1 12 z = nI i := by rw [fx1.o (by omega)]; exact r6
  have t11 : T1.1 11 z = nI (xK X i) := by rw [fx1.o (by omega)]; exact r5
  by_cases c33 : xK X i = 33
  · rw [if_pos (q33.mpr c33)]
    refine wp_bi (y_is (nf := nf) (d := d) (pl := nI (xP X (bgT ta))) hX hnf x1 hq.1 (by omega) t12 (i1 (Or.inr c33)) (by omega)) ?_
    intro r _ T2 ⟨⟨u1, u2⟩, u3⟩
    rw [u1, show (1 : Int32) = nI 1 from rfl]
    refine go 1 T2 u2 tyY_1 ?_
    intro R sl S n h x hR hT h51 hn hl hc hk
    have etk : tlK X i = 17 := by unfold tlK; rw [if_neg (by omega), if_neg (by omega)]
    rw [etk] at hc hk ⊢
    rcases u3 R sl S n h x hR hT h51 hn hk with hB | ⟨b1, b2, b3, b4, b5, b6⟩
    · exact Or.inl hB
    · rw [if_neg (show ¬ xK X i = 49 by omega), if_neg (show ¬ xK X i = 61 by omega)]
      have tw6 : tw X i = 6 := by unfold tw; rw [if_neg (by omega)]
      exact Or.inr ⟨b1, b2, ⟨0, Or.inl ⟨b3, rfl⟩⟩, b4, KrO_11 b5, by omega⟩
  · rw [if_neg (fun w => c33 (q33.mp w))]
    obtain ⟨d1, hd1⟩ : ∃ g, d = g + 1 := ⟨d - 1, by omega⟩
    have zz : inb (nI z) 4008 := nin (by omega) (by omega)
    have e149 : PP nf d 149 T1 [nI z, nI y1, nI (xP X (bgT ta)), (0 : Int32), nI dd] [] = if xK X i = 49 then (bi (PP nf d1 150 T1 [nI z, nI y1, nI (xP X (bgT ta)), (0 : Int32)] []) fun r6 _ T6 => some (r6, 0, T6)) else (bi (PP nf d1 154 T1 [nI y1, nI (xP X (bgT ta)), (0 : Int32)] []) fun r9 _ T9 => some (r9, 0, T9)) := by
      rw [hd1, e_Exprs_checkPlace]
      unfold rb_Exprs_checkPlace
      rw [gd, if_pos zz, nc (by omega), t11]
      have q44 : ¬ nI (xK X i) = (44 : Int32) := fun w => by
        have := nI_inj (a := xK X i) (b := 44) (by omega) (by omega) w
        omega
      have q49 : (nI (xK X i) = (49 : Int32)) = (xK X i = 49) := ci_eq (j := 49) (by omega) (by omega)
      rw [if_neg q44]
      simp only [q49]
    rw [e149]
    by_cases c49 : xK X i = 49
    · rw [if_pos c49]
      refine wp_bi (R := fun r _ T2 => ∃ y2, r = nI y2 ∧ FX T1 T2 ∧ tyY T2 y2 ∧ TlB X i (plT X ta) T1 T2 y1 y2) ?_ ?_
      · refine wp_bi (y_fld (nf := nf) (d := d1) (u := 0) (pl := nI (xP X (bgT ta))) hX hnf x1 hq.1 (by omega) t12 (i1 (Or.inl c49)) (by omega) (by omega)) ?_
        intro r _ T2 ⟨⟨y2, u1, u2, u3⟩, u4⟩
        refine wp_some ⟨y2, u1, u3, u2, ?_⟩
        intro R sl S n h x hR hT h51 hn hl hc hk
        have etk : tlK X i = 14 := by unfold tlK; rw [if_pos c49]
        rw [etk] at hc hk ⊢
        rw [if_pos c49]
        rcases u4 R sl S n y2 h x u1 u2.lt hR hT h51 hn hl hc hk with hB | ⟨h0, un, hun, hB | hO⟩
        · exact Or.inl hB
        · have e0 : plE 0 un (nI (xP X (bgT ta))) (thI X S x i (nI (xP X (bgT ta)))).2.2 = (thI X S x i (nI (xP X (bgT ta)))).2.2 := by
            unfold plE
            split
            · rw [if_neg (by decide), if_neg (by decide)]
            · rfl
          rw [e0] at hB
          exact Or.inl hB
        · have e0 : plE 0 un (nI (xP X (bgT ta))) (thI X S x i (nI (xP X (bgT ta)))).2.2 = (thI X S x i (nI (xP X (bgT ta)))).2.2 := by
            unfold plE
            split
            · rw [if_neg (by decide), if_neg (by decide)]
            · rfl
          rw [e0] at hO
          obtain ⟨b1, b2, b3, b4, ⟨t, q, c, b5, b6, b7, b8, b9, b10, b11⟩, b12⟩ := hO
          have tw6 : tw X i = 6 := by unfold tw; rw [if_neg (by omega)]
          refine Or.inr ⟨b1, b2, b3, b4, KrO_6 b5 b10 ?_, by omega⟩
          have fe : FE S (thI X S x i (nI (xP X (bgT ta)))).2.2 := FE.th
          show cw3 T2 n = (if (thI X S x i (nI (xP X (bgT ta)))).2.2.1 12 t = 1 then (21, (thI X S x i (nI (xP X (bgT ta)))).2.1 + 1, c) else (20, T2.1 45 (8 * t + (thI X S x i (nI (xP X (bgT ta)))).2.1.toNatClampNeg), c))
          rw [b11, b8, nc (by omega), fe.1 12 (by omega), nI_1]
          unfold rwF
          by_cases cu : un = true
          · rw [if_pos cu, if_pos (b7.mp cu), if_pos rfl]
          · rw [if_neg cu, if_neg (fun w => cu (b7.mpr w)), if_pos rfl]
      · intro r _ T2 ⟨y2, u1, u2, u3, u4⟩
        rw [u1]
        exact go y2 T2 u2 u3 u4
    · rw [if_neg c49]
      have c61 : xK X i = 61 := by omega
      refine wp_bi (R := fun r _ T2 => ∃ y2, r = nI y2 ∧ FX T1 T2 ∧ tyY T2 y2 ∧ TlB X i (plT X ta) T1 T2 y1 y2) ?_ ?_
      · refine wp_bi (y_cel (nf := nf) (d := d1) (u := 0) (nm := xN X (i + 1)) (pn := nI (xP X (i + 1))) (pl := nI (xP X (bgT ta))) hX x1 hq.1 (by omega) (by omega)) ?_
        intro r _ T2 ⟨⟨y2, u1, u2, u3⟩, u4⟩
        refine wp_some ⟨y2, u1, u3, u2, ?_⟩
        intro R sl S n h x hR hT h51 hn hl hc hk
        have etk : tlK X i = 16 := by unfold tlK; rw [if_neg c49, if_pos c61]
        rw [etk] at hc hk ⊢
        rw [if_neg c49, if_pos c61]
        rcases u4 R sl S n y2 h x u1 u2.lt hR hT h51 hn hk with hB | ⟨b1, b2, b3, b4, ⟨c, b5, b6⟩, b7⟩
        · exact Or.inl hB
        · exact Or.inr ⟨b1, b2, b3, b4, KrO_10 b5 b6, by omega⟩
      · intro r _ T2 ⟨y2, u1, u2, u3, u4⟩
        rw [u1]
        exact go y2 T2 u2 u3 u4
end CXX
