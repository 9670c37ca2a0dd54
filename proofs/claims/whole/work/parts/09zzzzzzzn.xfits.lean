/-! an EXPR that must FIT -/
section CYN
variable {R : RgR} {S S' S0 S1 S2 T T' T1 T2 : gSt} {X : Lx} {nf d i k n m t e w c a b q g f h r s y z lo hi dd mb y1 y2 kd kw kw1 lv lv1 st u h1 h2 zw : Nat} {x v x' pl pr u1 u2 u3 op x1 x2 : Int32} {sl : Int32 → Int32} {ta tb tr : Tr} {o : Bool}
/-- the fault that a lack is -/
def fiS (T : gSt) (y z : Nat) (o : Bool) (pl : Int32) : gSt := if lkV (kdC T y) (kdC T z) (decide (bhC T y = bhC T z)) o = 0 then T else ntS T (lkV (kdC T y) (kdC T z) (decide (bhC T y = bhC T z)) o) pl
theorem FX.fi (hW : WT T) : FX T (fiS T y z o pl) := by
  unfold fiS
  split
  · exact FX.rf hW
  · exact FX.nt hW
/-- demandFit -/
theorem y_dfit (hw : WX X T) (hy : tyY T y) (hz : tyY T z) (hb : PP nf d 33 T [nI lo] [] = some (pl, 0, T)) (hd : 6 ≤ d) : ∃ o : Bool, PP nf (d + 1) 141 T [nI y, nI z, nI lo] [] = some (0, 0, fiS T y z o pl) ∧ (o = true ↔ ouC T (rkC T y) (rkC T z)) := by
  obtain ⟨w1, w2, w3, w4, w5, w6, ⟨ti, w7, w7', _⟩, w8, w9⟩ := hw
  obtain ⟨o, h1, h2⟩ := c_lack (nf := nf) (d := d) (T := T) hy.lt hz.lt w7 w7' (by omega)
  refine ⟨o, ?_, h2⟩
  rw [e_Exprs_demandFit]
  unfold rb_Exprs_demandFit fiS
  rw [h1, bis]
  by_cases c : lkV (kdC T y) (kdC T z) (decide (bhC T y = bhC T z)) o = 0
  · rw [if_pos c, if_pos c]
  · rw [if_neg c, if_neg c, hb, bis, c_note (by omega), bis]
theorem lk_v {k1 k2 : Nat} {sm : Bool} : lkV k1 k2 sm o = 0 ∨ lkV k1 k2 sm o = 4 ∨ lkV k1 k2 sm o = 5 := by
  unfold lkV
  repeat' split
  all_goals first | exact Or.inl rfl | exact Or.inr (Or.inl rfl) | exact Or.inr (Or.inr rfl)
/-- what FITS, on both sides -/
theorem fits_b (hR : XR R sl X S T) (t1 : TyR R S T h1 x y) (t2 : TyR R S T h2 x' z) (n1 : ¬ x' = -1) (n2 : ¬ x' = -2) (ho : o = true ↔ ouC T (rkC T y) (rkC T z)) : (fiS T y z o pl = T ∧ ftS S x x' pl = S) ∨ BfR (ftS S x x' pl) (fiS T y z o pl) := by
  have e := fit_ok hR.2.2.1 hR.1.2.2.2.2.2.2.1 hR.2.2.2.2.2.2.1 t1 t2 n1 n2 ho
  have v := lk_v (k1 := kdC T y) (k2 := kdC T z) (sm := decide (bhC T y = bhC T z)) (o := o)
  unfold fiS ftS
  rw [e] at v ⊢
  rcases v with w | w | w
  · left
    rw [if_pos w, if_neg (fun q => q.2 (by rw [w]; decide))]
    exact ⟨rfl, rfl⟩
  · right
    rw [w, if_pos (show S.1 7 0 = 0 ∧ ¬ (4 : Int32) ≤ 0 from ⟨hR.h0, by decide⟩), if_neg (show ¬ (4 : Int32) = 0 by decide)]
    have := bf_nt (S := S) (T := T) (p := pl) (a := 4) hR.h0 hR.h53 (by decide)
    unfold flT at this
    rw [if_pos hR.h0] at this
    exact this
  · right
    rw [w, if_pos (show S.1 7 0 = 0 ∧ ¬ (5 : Int32) ≤ 0 from ⟨hR.h0, by decide⟩), if_neg (show ¬ (5 : Int32) = 0 by decide)]
    have := bf_nt (S := S) (T := T) (p := pl) (a := 5) hR.h0 hR.h53 (by decide)
    unfold flT at this
    rw [if_pos hR.h0] at this
    exact this
/-- checkFits -/
theorem y_fits (hX : XO X) (hnf : 16385 ≤ nf) (hC : CE1 nf X tr) (hP : CeP X T tr 1 lo hi z m dd d a b) (hd : 8 * m + 112 ≤ d) (h13 : T.1 13 z = 0) (hz : tyY T zw) : wp (PP nf (d + 2) 140 T [nI lo, nI zw, nI dd] []) (fun _ _ T' => ∃ y T2 o, CeQ X T tr y T2 ∧ (o = true ↔ ouC T2 (rkC T2 y) (rkC T2 zw)) ∧ T' = fiS T2 y zw o (plT X tr)) := by
  rw [e_Exprs_checkFits _ (d + 1)]
  unfold rb_Exprs_checkFits
  refine wp_bi (hC.run hnf hX hP hd h13) ?_
  obtain ⟨p1, p2, p3, p4, p5, p6, p7, p8, p9⟩ := hP
  intro r _ T2 ⟨y, e1, hq⟩
  have fx := hq.2.1
  have bb := x_begin (nf := nf) (d := d) hX hnf (p9.1.fx fx) (p1.fx fx) p3 p6 (by omega) p4 p5 (by omega)
  obtain ⟨o, g1, g2⟩ := y_dfit (nf := nf) (d := d) (p9.fx fx) hq.1 (fx.2.2.2.1 _ hz) bb (by omega)
  rw [e1, g1, bis]
  exact wp_some ⟨y, T2, o, hq, g2, rfl⟩
end CYN
