/-! PLACES that are pointed to or stored to -/
/-- the row of a place that isn't fetched -/
def PlW (R : RgR) (S T : gSt) (u : Nat) (un : Bool) (l : T5) (n : Nat) : Prop := (l.1 = 6 ∧ ∃ t q c, itR R S T l.2.2.1 t ∧ l.2.1 = nI q ∧ q < 8 ∧ wdR R S T l.2.2.2.1 c ∧ (un = true ↔ S.1 12 t = 1) ∧ cw3 T n = rwF u un T t q c) ∨ (l.1 = 8 ∧ ∃ c, wdR R S T l.2.2.1 c ∧ cw3 T n = ((if u = 1 then 31 else 32), 0, c)) ∨ (l.1 = 10 ∧ ∃ c, wdR R S T l.2.2.2.1 c ∧ cw3 T n = ((if u = 1 then 24 else 25), 0, c))
def PlO (R : RgR) (sl : Int32 → Int32) (X : Lx) (S S' T : gSt) (C : ChR) (u : Nat) (un : Bool) (kw lv n y1 y2 : Nat) (T' : gSt) : Prop := XR R sl X S' T' ∧ TyF S S' T T' ∧ (∃ h, TyR R S' T' h C.1 y2) ∧ (∃ h, TyR R S' T' h C.2.1 y1) ∧ (∃ js l, C.2.2.1 = js ++ [l] ∧ kGo js ∧ T'.1 51 0 = nI (n + (ksE js).length + 1) ∧ KrL R sl S' T' (ksE js) n ∧ (ksE js).length + 1 ≤ kw ∧ PlW R S' T' u un l (n + (ksE js).length)) ∧ lvC T' 16384 ≤ lvC T 16384 + lv ∧ FE C.2.2.2 S'
/-- a place has been checked: y1 what holds it, y2 what is there -/
def PlP (X : Lx) (T : gSt) (tr : Tr) (u y1 y2 : Nat) (T' : gSt) : Prop := tyY T' y1 ∧ tyY T' y2 ∧ FX T T' ∧ ∀ R sl S n, XR R sl X S T → Rm X (chk X tr 0 0 S).2.2.2 T tr n → BfR (chk X tr 0 0 S).2.2.2 T' ∨ ((chk X tr 0 0 S).2.2.2.1 7 0 = 0 ∧ ∃ un : Bool, (un = true ↔ tkd X tr = 14 ∧ (chk X tr 0 0 S).2.2.2.1 12 (tf (chk X tr 0 0 S).2.2.2 69 (chk X tr 0 0 S).2.1).toNatClampNeg = 1) ∧ (BfR (plE u un (plT X tr) (chk X tr 0 0 S).2.2.2) T' ∨ PlO R sl X S (plE u un (plT X tr) (chk X tr 0 0 S).2.2.2) T (chk X tr 0 0 S) u un (kwT tr) (lvT X tr) n y1 y2 T'))
section CYH
variable {R : RgR} {S S' S0 S1 S2 T T' T1 T2 : gSt} {X : Lx} {nf d i k n m t e w c a b q g f h r s y z lo hi dd mb y1 y2 kd kw kw1 lv lv1 st u : Nat} {x v x' pl u1 u2 u3 op : Int32} {sl : Int32 → Int32} {ta tb tr : Tr}
theorem TyR.tn (hh : TyR R S T f x y) (hg : Tg S) : x.toNatClampNeg < cn S := by
  rcases hh.rd with ⟨e1, _⟩ | ⟨e1, _⟩ | ⟨e1, _⟩ | ⟨p, kd, r, n, b, g, _, e1, e2, e3, e4, _⟩
  · rw [e1]; exact hg.2.1
  · rw [e1]; exact hg.2.1
  · rw [e1]; exact hg.2.1
  · rw [e1, nc (by omega)]; exact e3
theorem tf_69 (hh : TyR R S T f x y) (hg : Tg S) (fe : FE S S') (hc : cn S' < 6000) : tf S' 69 x = tf S 69 x := by
  have := (fe.2.2.1 hg).2.2 hc _ (hh.tn hg)
  unfold rwT at this
  simp only [Prod.mk.injEq] at this
  exact this.2.2.2.1
/-- a tail . or ^ that isn't fetched -/
theorem y_pl3 (hX : XO X) (hnf : 16385 ≤ nf) (hA : CE0 nf X ta) (hK : xK X i = 49 ∨ xK X i = 61) (hu : u = 1 ∨ u = 2) (hP : CeP X T (tD 3 i e ta tb) 0 lo hi z m dd d a b) {K : Int32 → Int32 → gSt → gR} {Q : Int32 → Int64 → gSt → Prop} (hQ : ∀ y1 y2 T2, PlP X T (tD 3 i e ta tb) u y1 y2 T2 → wp (K (nI y1) (nI y2) T2) Q) : wp (bi (PP nf (d + 1) 148 T [nI lo, nI z, nI dd] []) fun r15 _ T15 => bi (PP nf (d + 1) 149 T15 [nI z, r15, plT X (tD 3 i e ta tb), nI u, nI dd] []) fun r16 _ T16 => K r15 r16 T16) Q := by
  obtain ⟨p1, p2, p3, p4, p5, p6, p7, p8, p9⟩ := hP
  have hxn := hX.1
  rw [RcG_n] at p1
  unfold RcN Rc0 at p1
  rw [if_neg (by omega), if_neg (by omega), if_neg (by omega), if_neg (by omega), if_pos rfl] at p1
  obtain ⟨r1, r2, ⟨z', r3, r4⟩, r5, r6⟩ := p1
  rw [XG_n] at p6
  unfold xgN at p6
  rw [if_neg (by omega), if_neg (by omega), if_neg (by omega), if_pos rfl] at p6
  obtain ⟨g1, g2⟩ := p6
  have p4' := p4
  rw [Wf_n] at p4
  unfold WfN at p4
  rw [if_neg (by decide), if_neg (by omega), if_neg (by omega), if_pos rfl] at p4
  obtain ⟨f1, f2⟩ := p4
  have i1 : xK X i = 49 → i + 1 < xn X := fun w => by
    refine Decidable.byContradiction fun v => ?_
    have := ((hX.2 (i + 1)).1 (by omega)).1
    omega
  have lk : (if z' = 0 then T.1 18 lo else T.1 13 z') = nI z := by
    unfold lkT at r4
    split
    · rename_i c0
      rw [if_pos c0] at r4
      exact r4
    · rename_i c0
      rw [if_neg c0] at r4
      exact r4
  refine wp_bi (hA.stop (d := d) hX hnf ⟨r3, p2, by omega, f1, by omega, g1, p7, p8, p9⟩ (Or.inr (Nat.le_refl _)) (by omega) lk) ?_
  intro r _ T1 ⟨y1, e1, hq⟩
  rw [e1]
  have fx1 := hq.2.1
  have x1 := p9.fx fx1
  have zz : inb (nI z) 4008 := nin (by omega) (by omega)
  have t12 : T1.1 12 z = nI i := by rw [fx1.o (by omega)]; exact r6
  have t11 : T1.1 11 z = nI (xK X i) := by rw [fx1.o (by omega)]; exact r5
  have epl : plT X (tD 3 i e ta tb) = plT X ta := rfl
  have e149 : PP nf (d + 1) 149 T1 [nI z, nI y1, plT X ta, nI u, nI dd] [] = if xK X i = 49 then (bi (PP nf d 150 T1 [nI z, nI y1, plT X ta, nI u] []) fun r6 _ T6 => some (r6, 0, T6)) else (bi (PP nf d 154 T1 [nI y1, plT X ta, nI u] []) fun r9 _ T9 => some (r9, 0, T9)) := by
    rw [e_Exprs_checkPlace]
    unfold rb_Exprs_checkPlace
    have xl := (hX.2 i).2
    rw [gd, if_pos zz, nc (by omega), t11]
    have q44 : ¬ nI (xK X i) = (44 : Int32) := fun w => by
      have := nI_inj (a := xK X i) (b := 44) (by omega) (by omega) w
      omega
    have q49 : (nI (xK X i) = (49 : Int32)) = (xK X i = 49) := ci_eq (j := 49) (by omega) (by omega)
    rw [if_neg q44]
    simp only [q49]
  rw [epl, e149]
  have ekw : kwT (tD 3 i e ta tb) = kwT ta + 1 := rfl
  have elv : lvT X (tD 3 i e ta tb) = lvT X ta + tw X i := rfl
  have ech : ∀ S : gSt, S.1 7 0 = 0 → chk X (tD 3 i e ta tb) 0 0 S = tlC X (chk X ta) ta i S := fun S h0 => by rw [chk_n, if_pos h0]; rfl
  have etk : tkd X (tD 3 i e ta tb) = if xK X i = 49 then 14 else if xK X i = 61 then 16 else 17 := rfl
  -- what the spec says of what holds it
  have hold : ∀ (R : RgR) (sl : Int32 → Int32) (S : gSt) (n : Nat), XR R sl X S T → Rm X (chk X (tD 3 i e ta tb) 0 0 S).2.2.2 T (tD 3 i e ta tb) n → XQ R sl X S T ta 0 0 n y1 T1 ∧ FE S (chk X ta 0 0 S).2.2.2 := by
    intro R sl S n hR ⟨o1, o2, o3, o4⟩
    have fe1 : FE S (chk X ta 0 0 S).2.2.2 := chk_fe ta 0 0 S
    refine ⟨hq.2.2 R sl S n hR ⟨o1, by omega, by omega, ?_⟩, fe1⟩
    rw [ech S hR.h0] at o4
    unfold tlC at o4
    dsimp only at o4
    split at o4
    · exact FE.th.lt (fe1.tg hR.2.1.1) o4
    · exact o4
  by_cases c49 : xK X i = 49
  · rw [if_pos c49]
    have tw6 : tw X i = 6 := by unfold tw; rw [if_neg (by omega)]
    refine wp_bi (R := fun r _ T2 => ∃ y2, r = nI y2 ∧ PlP X T (tD 3 i e ta tb) u y1 y2 T2) ?_ ?_
    · refine wp_bi (y_fld (nf := nf) (d := d) (u := u) (pl := plT X ta) hX hnf x1 hq.1 (by omega) t12 (i1 c49) (by omega) (by omega)) ?_
      intro r _ T2 ⟨⟨y2, u1, u2, u3⟩, u4⟩
      refine wp_some ⟨y2, u1, u3.2.2.2.1 _ hq.1, u2, fx1.tr u3, fun R sl S n hR hm => ?_⟩
      obtain ⟨qA, fe1⟩ := hold R sl S n hR hm
      obtain ⟨o1, o2, o3, o4⟩ := hm
      have ck := ck_of hX p4' p5 hR.2.1 o4
      rw [ekw] at o2 ⊢
      rw [elv] at o3 ⊢
      rw [epl, etk, if_pos c49]
      rw [ech S hR.h0] at o4 ck ⊢
      unfold tlC at o4 ck ⊢
      have ek : tlK X i = 14 := by unfold tlK; rw [if_pos c49]
      rw [ek] at o4 ck ⊢
      unfold XQ XOk at qA
      rcases qA with ⟨a1, a2, ⟨h1, a3⟩, a4, a5, a6, a7, a8⟩ | hBf
      · dsimp only at o4 ck ⊢
        rw [if_pos a1.h0] at o4 ck ⊢
        have feT : FE (chk X ta 0 0 S).2.2.2 (thI X (chk X ta 0 0 S).2.2.2 (chk X ta 0 0 S).1 i (plT X ta)).2.2 := FE.th
        have e69 := tf_69 a3 a1.2.1.1 feT o4
        rcases u4 R sl _ (n + (ksE (chk X ta 0 0 S).2.2.1).length) y2 h1 _ u1 u2.lt a1 a3 a4 (by omega) (by omega) o4 ck with q | ⟨h0, un, hun, q | hO⟩
        · exact Or.inl q
        · refine Or.inr ⟨h0, un, ?_, Or.inl q⟩
          rw [hun]
          dsimp only
          rw [e69, feT.1 12 (by omega)]
          exact ⟨fun w => ⟨rfl, w⟩, fun w => w.2⟩
        · refine Or.inr ⟨h0, un, ?_, Or.inr ?_⟩
          · rw [hun]
            dsimp only
            rw [e69, feT.1 12 (by omega)]
            exact ⟨fun w => ⟨rfl, w⟩, fun w => w.2⟩
          · obtain ⟨b1, b2, b3, b4, ⟨t, q, c, b5, b6, b7, b8, b9, b10, b11⟩, b12⟩ := hO
            have fP : FE (thI X (chk X ta 0 0 S).2.2.2 (chk X ta 0 0 S).1 i (plT X ta)).2.2 (plE u un (plT X ta) (thI X (chk X ta 0 0 S).2.2.2 (chk X ta 0 0 S).1 i (plT X ta)).2.2) := by
              unfold plE
              split
              · split
                · exact FE.fl (by decide)
                · split
                  · exact FE.wr (by omega)
                  · exact FE.rf
              · exact FE.rf
            refine ⟨b1, a2.tr b2, b3, ⟨h1, TyR.mo b2 (fun _ _ z => z) _ _ _ a3⟩, ⟨(chk X ta 0 0 S).2.2.1, _, rfl, a7, b4, a5.fx b2 (feT.tr fP) u3 a4 (by omega), by omega, Or.inl ⟨?_, t, q, c, b5, b8, b9, b10, ?_, b11⟩⟩, by omega, fP⟩
            · show (if xK X i = 49 then (6 : Int32) else if xK X i = 61 then 10 else 11) = 6
              rw [if_pos c49]
            · rw [b7, (feT.tr fP).1 12 (by omega)]
      · dsimp only
        rw [if_neg hBf.1]
        exact Or.inl (hBf.fx u3)
    · intro r _ T2 ⟨y2, u1, u2⟩
      rw [u1]
      exact hQ y1 y2 T2 u2
  · have c61 : xK X i = 61 := by omega
    rw [if_neg c49]
    refine wp_bi (R := fun r _ T2 => ∃ y2, r = nI y2 ∧ PlP X T (tD 3 i e ta tb) u y1 y2 T2) ?_ ?_
    · refine wp_bi (y_cel (nf := nf) (d := d) (u := u) (nm := xN X (i + 1)) (pn := nI (xP X (i + 1))) (pl := plT X ta) hX x1 hq.1 (by omega) (by omega)) ?_
      intro r _ T2 ⟨⟨y2, u1, u2, u3⟩, u4⟩
      refine wp_some ⟨y2, u1, u3.2.2.2.1 _ hq.1, u2, fx1.tr u3, fun R sl S n hR hm => ?_⟩
      obtain ⟨qA, fe1⟩ := hold R sl S n hR hm
      obtain ⟨o1, o2, o3, o4⟩ := hm
      have ck := ck_of hX p4' p5 hR.2.1 o4
      rw [ekw] at o2 ⊢
      rw [elv] at o3 ⊢
      rw [epl, etk, if_neg c49, if_pos c61]
      rw [ech S hR.h0] at o4 ck ⊢
      unfold tlC at o4 ck ⊢
      have ek : tlK X i = 16 := by unfold tlK; rw [if_neg c49, if_pos c61]
      rw [ek] at o4 ck ⊢
      unfold XQ XOk at qA
      rcases qA with ⟨a1, a2, ⟨h1, a3⟩, a4, a5, a6, a7, a8⟩ | hBf
      · dsimp only at o4 ck ⊢
        rw [if_pos a1.h0] at o4 ck ⊢
        rcases u4 R sl _ (n + (ksE (chk X ta 0 0 S).2.2.1).length) y2 h1 _ u1 u2.lt a1 a3 a4 (by omega) ck with q | ⟨b1, b2, b3, b4, ⟨c, b5, b6⟩, b7⟩
        · exact Or.inl q
        · refine Or.inr ⟨b1.h0, false, ⟨fun w => absurd w (by decide), fun w => absurd w.1 (by decide)⟩, Or.inr ?_⟩
          have ep : ∀ S0 : gSt, plE u false (plT X ta) S0 = S0 := fun _ => rfl
          rw [ep]
          refine ⟨b1, a2.tr b2, b3, ⟨h1, TyR.mo b2 (fun _ _ z => z) _ _ _ a3⟩, ⟨(chk X ta 0 0 S).2.2.1, _, rfl, a7, b4, a5.fx b2 FE.th u3 a4 (by omega), by omega, Or.inr (Or.inr ⟨?_, c, b5, ?_⟩)⟩, by omega, FE.rf⟩
          · show (if xK X i = 49 then (6 : Int32) else if xK X i = 61 then 10 else 11) = 10
            rw [if_neg c49, if_pos c61]
          · rw [b6]
            rcases hu with w | w
            · subst w; rfl
            · subst w; rfl
      · dsimp only
        rw [if_neg hBf.1]
        exact Or.inl (hBf.fx u3)
    · intro r _ T2 ⟨y2, u1, u2⟩
      rw [u1]
      exact hQ y1 y2 T2 u2
end CYH
