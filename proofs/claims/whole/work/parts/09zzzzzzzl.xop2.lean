/-! an operator between two TERMS -/
section CYL
variable {R : RgR} {S S' S0 S1 S2 T T' T1 T2 : gSt} {X : Lx} {nf d i k n m t e w c a b q g f h r s y z lo hi dd mb y1 y2 kd kw kw1 lv lv1 st u h1 h2 : Nat} {x v x' pl pr u1 u2 u3 op x1 x2 : Int32} {sl : Int32 → Int32} {ta tb tr : Tr}
/-- what an operator comes to -/
def OpO (R : RgR) (sl : Int32 → Int32) (X : Lx) (S T : gSt) (C : Int32 × gSt) (sg : Int32) (n y : Nat) (T' : gSt) : Prop := BfR C.2 T' ∨ (C.2 = S ∧ XR R sl X S T' ∧ TyF S S T T' ∧ (∃ h, TyR R S T' h C.1 y ∧ cw3 T' n = ((if kdC T' y = 5 then 9 else opK sg), 0, 0)) ∧ T'.1 51 0 = nI (n + 1) ∧ lvC T' 16384 = lvC T 16384)
theorem opC_c {sg : Int32} : opC S sg x1 x2 pl pr = if sg = 43 ∧ ¬ isRo S x1 = 0 ∧ x2 = 0 then (x1, S) else if sg = 256 ∧ (x1 = -2 ∨ ¬ isPt S x1 = 0) ∧ (x2 = -2 ∨ ¬ isPt S x2 = 0) then cmS S x1 x2 pl pr else if x1 = 0 then (if x2 = 0 then (0, S) else (0, flT S 4 pr)) else (0, flT S 4 pl) := rfl
/-- a plain row behind a good check -/
theorem OpO.em (hR : XR R sl X S T) (h51 : T.1 51 0 = nI n) (hn : n < 6032) (he : kdC T y = 5 ∨ y = 1) (ht : TyR R S T h x y) (hop : op = if kdC T y = 5 then 9 else opK v) : OpO R sl X S T (x, S) v n y (emS T n op 0 0) := by
  obtain ⟨a1, a2, a3, a4, a5⟩ := hR.em (S2 := S) (T5 := T) (u1 := op) (u2 := 0) (u3 := 0) h51 hn (fun _ _ => rfl) rfl rfl (fun _ _ _ => rfl) hR.2.1 hR.2.2.2.2.2.2.2.2.2.2
  refine Or.inr ⟨rfl, a1, a2, ⟨h, TyR.mo a2 (fun _ _ z => z) _ _ _ ht, ?_⟩, em_51, a5⟩
  rw [em_row, ht.kd a2, hop]
theorem y_op (hnf : 16385 ≤ nf) (hw : WX X T) (hy1 : tyY T y1) (hy2 : tyY T y2) (hz : z < 4008) (h15 : T.1 15 z = nI e) (he : e = 51 ∨ (53 ≤ e ∧ e ≤ 57) ∨ e = 62) (hbL : PP nf d 33 T [nI lo] [] = some (pl, 0, T)) (hbR : PP nf d 33 T [nI z] [] = some (pr, 0, T)) (hd : 8 ≤ d) : wp (PP nf (d + 1) 144 T [nI lo, nI z, nI y1, nI y2] []) (fun r _ T' => ∃ y, r = nI y ∧ tyY T' y ∧ FX T T' ∧ ∀ R sl S h1 h2 x1 x2 n, XR R sl X S T → TyR R S T h1 x1 y1 → TyR R S T h2 x2 y2 → T.1 51 0 = nI n → n < 6032 → OpO R sl X S T (opC S (chK e) x1 x2 pl pr) (chK e) n y T') := by
  have yl1 := hy1.lt
  have yl2 := hy2.lt
  have w2 := hw.2.1
  have w6 := hw.2.2.2.2.2.1
  have kl := kdC_lt (T := T) (y := y1)
  have zz : inb (nI z) 4008 := nin hz (by omega)
  rw [e_Exprs_checkOperator]
  unfold rb_Exprs_checkOperator
  rw [gd, if_pos zz, nc (by omega), vK, h15, hbL, bis]
  have qe : ∀ j, j < 100 → (nI e = nI j) = (e = j) := fun j hj => ci_eq (by omega) (by omega)
  have q53 : (nI e = (53 : Int32)) = (e = 53) := qe 53 (by omega)
  have q62 : (nI e = (62 : Int32)) = (e = 62) := qe 62 (by omega)
  have s53 : chK e = 43 ↔ e = 53 := by
    have : e = 51 ∨ e = 53 ∨ e = 54 ∨ e = 55 ∨ e = 56 ∨ e = 57 ∨ e = 62 := by omega
    rcases this with v | v | v | v | v | v | v <;> subst v <;> decide
  have s62 : chK e = 256 ↔ e = 62 := by
    have : e = 51 ∨ e = 53 ∨ e = 54 ∨ e = 55 ∨ e = 56 ∨ e = 57 ∨ e = 62 := by omega
    rcases this with v | v | v | v | v | v | v <;> subst v <;> decide
  have q1 : (nI y1 = (1 : Int32)) = (y1 = 1) := ci_eq (j := 1) (by omega) (by omega)
  have q2 : (nI y2 = (1 : Int32)) = (y2 = 1) := ci_eq (j := 1) (by omega) (by omega)
  have k1 : kdC T 1 = 1 := by unfold kdC; rw [if_pos (by omega)]
  -- numbers
  have r104 : (∀ R sl S h1 h2 x1 x2, XR R sl X S T → TyR R S T h1 x1 y1 → TyR R S T h2 x2 y2 → opC S (chK e) x1 x2 pl pr = if x1 = 0 then (if x2 = 0 then (0, S) else (0, flT S 4 pr)) else (0, flT S 4 pl)) → wp (rj_Exprs_checkOperator_104 (PP nf d) nf T (nI z) (nI y1) (nI y2) (nI e) pl) (fun r _ T' => ∃ y, r = nI y ∧ tyY T' y ∧ FX T T' ∧ ∀ R sl S h1 h2 x1 x2 n, XR R sl X S T → TyR R S T h1 x1 y1 → TyR R S T h2 x2 y2 → T.1 51 0 = nI n → n < 6032 → OpO R sl X S T (opC S (chK e) x1 x2 pl pr) (chK e) n y T') := by
    intro hs
    unfold rj_Exprs_checkOperator_104
    by_cases c1 : y1 = 1
    · rw [if_pos (q1.mpr c1)]
      by_cases c2 : y2 = 1
      · rw [if_pos (q2.mpr c2)]
        obtain ⟨T', g1, g2, g3⟩ := a_ins (nf := nf) (d := d) w2 w6 he (by omega)
        rw [g1]
        refine wp_some ⟨1, rfl, tyY_1, g2, fun R sl S h1 h2 x1 x2 n hR t1 t2 h51 hn => ?_⟩
        rw [hs R sl S h1 h2 x1 x2 hR t1 t2, if_pos (t1.y1.mpr c1), if_pos (t2.y1.mpr c2), g3 n h51 hn]
        exact OpO.em (h := 0) hR h51 hn (Or.inr rfl) (Or.inl ⟨rfl, rfl⟩) (by rw [k1, if_neg (by decide)])
      · rw [if_neg (fun w => c2 (q2.mp w)), hbR, bis, c_note (by omega), bis]
        have f1 : FX T (ntS T 4 pr) := FX.nt w2
        obtain ⟨T', g1, g2, g3⟩ := a_ins (nf := nf) (d := d) (T := ntS T 4 pr) f1.2.2.1 ((hw.fx f1).2.2.2.2.2.1) he (by omega)
        rw [g1]
        refine wp_some ⟨1, rfl, tyY_1, f1.tr g2, fun R sl S h1 h2 x1 x2 n hR t1 t2 h51 hn => Or.inl ?_⟩
        rw [hs R sl S h1 h2 x1 x2 hR t1 t2, if_pos (t1.y1.mpr c1), if_neg (fun w => c2 (t2.y1.mp w))]
        exact (bf_nt (a := 4) hR.h0 hR.h53 (by decide)).fx g2
    · rw [if_neg (fun w => c1 (q1.mp w)), c_note (by omega), bis]
      have f1 : FX T (ntS T 4 pl) := FX.nt w2
      obtain ⟨T', g1, g2, g3⟩ := a_ins (nf := nf) (d := d) (T := ntS T 4 pl) f1.2.2.1 ((hw.fx f1).2.2.2.2.2.1) he (by omega)
      rw [g1]
      refine wp_some ⟨1, rfl, tyY_1, f1.tr g2, fun R sl S h1 h2 x1 x2 n hR t1 t2 h51 hn => Or.inl ?_⟩
      rw [hs R sl S h1 h2 x1 x2 hR t1 t2, if_neg (fun w => c1 (t1.y1.mp w))]
      exact (bf_nt (a := 4) hR.h0 hR.h53 (by decide)).fx g2
  -- what may be compared
  have r60 : (∀ R sl S h1 h2 x1 x2, XR R sl X S T → TyR R S T h1 x1 y1 → TyR R S T h2 x2 y2 → ¬ (chK e = 43 ∧ ¬ isRo S x1 = 0 ∧ x2 = 0)) → wp (rj_Exprs_checkOperator_60 (PP nf d) nf T (nI z) (nI y1) (nI y2) (nI e) pl) (fun r _ T' => ∃ y, r = nI y ∧ tyY T' y ∧ FX T T' ∧ ∀ R sl S h1 h2 x1 x2 n, XR R sl X S T → TyR R S T h1 x1 y1 → TyR R S T h2 x2 y2 → T.1 51 0 = nI n → n < 6032 → OpO R sl X S T (opC S (chK e) x1 x2 pl pr) (chK e) n y T') := by
    intro hs
    unfold rj_Exprs_checkOperator_60
    by_cases c62 : e = 62
    · rw [if_pos (q62.mpr c62), c_may yl1 (by omega), bis]
      by_cases m1 : y1 = 2 ∨ kdC T y1 = 3 ∨ kdC T y1 = 4
      · rw [if_pos m1, if_neg (by decide), c_may yl2 (by omega), bis]
        by_cases m2 : y2 = 2 ∨ kdC T y2 = 3 ∨ kdC T y2 = 4
        · rw [if_pos m2, if_neg (by decide), hbR, bis]
          obtain ⟨T1, g1, g2, g3⟩ := y_cmp (nf := nf) (d := d) (pl := pl) (pr := pr) hw yl1 yl2 (by omega)
          rw [g1, bis]
          obtain ⟨T', i1, i2, i3⟩ := a_ins (nf := nf) (d := d) (T := T1) g2.2.2.1 ((hw.fx g2).2.2.2.2.2.1) he (by omega)
          rw [i1]
          refine wp_some ⟨1, rfl, tyY_1, g2.tr i2, fun R sl S h1 h2 x1 x2 n hR t1 t2 h51 hn => ?_⟩
          rw [opC_c, if_neg (hs R sl S h1 h2 x1 x2 hR t1 t2), if_pos (show chK e = 256 ∧ (x1 = -2 ∨ ¬ isPt S x1 = 0) ∧ (x2 = -2 ∨ ¬ isPt S x2 = 0) from ⟨s62.mpr c62, t1.mc.mpr m1, t2.mc.mpr m2⟩)]
          rcases g3 R sl S h1 h2 x1 x2 hR t1 t2 (t1.mc.mpr m1) (t2.mc.mpr m2) with hB | ⟨eT, ec⟩
          · exact Or.inl (hB.fx i2)
          · subst eT
            rw [ec, i3 n h51 hn]
            exact OpO.em (h := 0) hR h51 hn (Or.inr rfl) (Or.inl ⟨rfl, rfl⟩) (by rw [k1, if_neg (by decide)])
        · rw [if_neg m2, if_pos rfl]
          refine r104 (fun R sl S h1 h2 x1 x2 hR t1 t2 => ?_)
          rw [opC_c, if_neg (hs R sl S h1 h2 x1 x2 hR t1 t2), if_neg (show ¬ (chK e = 256 ∧ (x1 = -2 ∨ ¬ isPt S x1 = 0) ∧ (x2 = -2 ∨ ¬ isPt S x2 = 0)) from fun w => m2 (t2.mc.mp w.2.2))]
      · rw [if_neg m1, if_pos rfl]
        refine r104 (fun R sl S h1 h2 x1 x2 hR t1 t2 => ?_)
        rw [opC_c, if_neg (hs R sl S h1 h2 x1 x2 hR t1 t2), if_neg (show ¬ (chK e = 256 ∧ (x1 = -2 ∨ ¬ isPt S x1 = 0) ∧ (x2 = -2 ∨ ¬ isPt S x2 = 0)) from fun w => m1 (t1.mc.mp w.2.1))]
    · rw [if_neg (fun w => c62 (q62.mp w))]
      refine r104 (fun R sl S h1 h2 x1 x2 hR t1 t2 => ?_)
      rw [opC_c, if_neg (hs R sl S h1 h2 x1 x2 hR t1 t2), if_neg (show ¬ (chK e = 256 ∧ (x1 = -2 ∨ ¬ isPt S x1 = 0) ∧ (x2 = -2 ∨ ¬ isPt S x2 = 0)) from fun w => c62 (s62.mp w.1))]
  by_cases c53 : e = 53
  · rw [if_pos (q53.mpr c53), c_kindOf (by omega) (by omega), bis]
    have q5 : (nI (kdC T y1) = (5 : Int32)) = (kdC T y1 = 5) := ci_eq (j := 5) (by omega) (by omega)
    by_cases c5 : kdC T y1 = 5
    · rw [if_pos (q5.mpr c5)]
      by_cases c2 : y2 = 1
      · rw [if_pos (q2.mpr c2)]
        obtain ⟨r, T', m1, m2, m3⟩ := a_emit (nf := nf) (d := d) (T := T) (x := 9) (y := 0) (z := 0) w2 w6 (by omega)
        rw [m1, bis]
        refine wp_some ⟨y1, rfl, m2.2.2.2.1 _ hy1, m2, fun R sl S h1 h2 x1 x2 n hR t1 t2 h51 hn => ?_⟩
        rw [opC_c, if_pos (show chK e = 43 ∧ ¬ isRo S x1 = 0 ∧ x2 = 0 from ⟨s53.mpr c53, fun w => t1.ro.mp w c5, t2.y1.mpr c2⟩), m3 n h51 hn]
        exact OpO.em (h := h1) hR h51 hn (Or.inl c5) t1 (by rw [if_pos c5])
      · rw [if_neg (fun w => c2 (q2.mp w))]
        exact r60 (fun R sl S h1 h2 x1 x2 hR t1 t2 w => c2 (t2.y1.mp w.2.2))
    · rw [if_neg (fun w => c5 (q5.mp w))]
      exact r60 (fun R sl S h1 h2 x1 x2 hR t1 t2 w => w.2.1 (t1.ro.mpr c5))
  · rw [if_neg (fun w => c53 (q53.mp w))]
    exact r60 (fun R sl S h1 h2 x1 x2 hR t1 t2 w => c53 (s53.mp w.1))
end CYL
