/-! operators -/
/-- two pointers compared -/
def cmS (S : gSt) (l r pl pr : Int32) : Int32 × gSt := if l = -2 ∨ r = -2 then (0, S) else if ¬ sameC S l r = 0 ∧ (¬ dOv S (tf S 67 l) (tf S 67 r) = 0 ∨ ¬ dOv S (tf S 67 r) (tf S 67 l) = 0) then (if isLv S (tf S 67 l) = 0 then (0, flT S 5 pl) else if isLv S (tf S 67 r) = 0 then (0, flT S 5 pr) else (0, S)) else (0, flT S 4 pr)
section CYK
variable {R : RgR} {S S' S0 S1 S2 T T' T1 T2 : gSt} {X : Lx} {nf d i k n m t e w c a b q g f h r s y z lo hi dd mb y1 y2 kd kw kw1 lv lv1 st u h1 h2 : Nat} {x v x' pl pr u1 u2 u3 op x1 x2 : Int32} {sl : Int32 → Int32} {ta tb tr : Tr}
theorem c_may (hy : y < 16387) (hd : 4 ≤ d) : PP nf d 145 T [nI y] [] = some ((if y = 2 ∨ kdC T y = 3 ∨ kdC T y = 4 then 1 else 0), 0, T) := by
  obtain ⟨d, rfl⟩ : ∃ g, d = g + 1 := ⟨d - 1, by omega⟩
  rw [e_Exprs_mayCompare]
  unfold rb_Exprs_mayCompare
  have q2 : (nI y = (2 : Int32)) = (y = 2) := ci_eq (j := 2) (by omega) (by omega)
  by_cases c : y = 2
  · rw [if_pos (q2.mpr c), if_pos (Or.inl c)]
  · rw [if_neg (fun w => c (q2.mp w)), c_isPointed (by omega) (by omega), bis]
    by_cases cp : kdC T y = 3 ∨ kdC T y = 4
    · rw [if_pos cp, if_neg (by decide), if_pos (Or.inr cp)]
    · rw [if_neg cp, if_pos rfl, if_neg (fun w => w.elim c cp)]
theorem TyR.mc (hh : TyR R S T f x y) : (x = -2 ∨ ¬ isPt S x = 0) ↔ (y = 2 ∨ kdC T y = 3 ∨ kdC T y = 4) := by
  rw [hh.y2]
  have := hh.pt
  constructor
  · rintro (w | w)
    · exact Or.inl w
    · exact Or.inr (Decidable.byContradiction fun v => w (this.mpr v))
  · rintro (w | w)
    · exact Or.inl w
    · exact Or.inr (fun v => this.mp v w)
theorem c_ins (he : e = 51 ∨ (53 ≤ e ∧ e ≤ 57) ∨ e = 62) (hd : 1 ≤ d) : PP nf d 147 T [nI e] [] = some (opK (chK e), 0, T) := by
  obtain ⟨d, rfl⟩ : ∃ g, d = g + 1 := ⟨d - 1, by omega⟩
  rw [e_Exprs_instructionOf]
  have : e = 51 ∨ e = 53 ∨ e = 54 ∨ e = 55 ∨ e = 56 ∨ e = 57 ∨ e = 62 := by omega
  rcases this with w | w | w | w | w | w | w <;> subst w <;> rfl
/-- the instruction of an operator is laid -/
theorem a_ins (hW : WT T) (h51 : ∃ c, T.1 51 0 = nI c ∧ c ≤ 6032) (he : e = 51 ∨ (53 ≤ e ∧ e ≤ 57) ∨ e = 62) (hd : 2 ≤ d) : ∃ T', (bi (PP nf d 147 T [nI e] []) fun r22 _ T22 => bi (PP nf d 51 T22 [r22, (0 : Int32), (0 : Int32)] []) fun _ _ T23 => some ((1 : Int32), (0 : Int64), T23)) = some (1, 0, T') ∧ FX T T' ∧ ∀ n, T.1 51 0 = nI n → n < 6032 → T' = emS T n (opK (chK e)) 0 0 := by
  obtain ⟨r, T', m1, m2, m3⟩ := a_emit (nf := nf) (d := d) (T := T) (x := opK (chK e)) (y := 0) (z := 0) hW h51 (by omega)
  exact ⟨T', by rw [c_ins he (by omega), bis, m1, bis], m2, m3⟩
/-- checkComparison -/
theorem y_cmp (hw : WX X T) (hy1 : y1 < 16387) (hy2 : y2 < 16387) (hd : 4 ≤ d) : ∃ T', PP nf d 146 T [nI y1, nI y2, pl, pr] [] = some (0, 0, T') ∧ FX T T' ∧ ∀ R sl S h1 h2 x1 x2, XR R sl X S T → TyR R S T h1 x1 y1 → TyR R S T h2 x2 y2 → (x1 = -2 ∨ ¬ isPt S x1 = 0) → (x2 = -2 ∨ ¬ isPt S x2 = 0) → BfR (cmS S x1 x2 pl pr).2 T' ∨ (T' = T ∧ cmS S x1 x2 pl pr = (0, S)) := by
  obtain ⟨d, rfl⟩ : ∃ g, d = g + 1 := ⟨d - 1, by omega⟩
  obtain ⟨w1, w2, w3, w4, w5, w6, ⟨ti, w7, w7', _⟩, w8, w9⟩ := hw
  rw [e_Exprs_checkComparison]
  unfold rb_Exprs_checkComparison
  have q1 : (nI y1 = (2 : Int32)) = (y1 = 2) := ci_eq (j := 2) (by omega) (by omega)
  have q2 : (nI y2 = (2 : Int32)) = (y2 = 2) := ci_eq (j := 2) (by omega) (by omega)
  by_cases c1 : y1 = 2
  · rw [if_pos (q1.mpr c1)]
    refine ⟨T, rfl, FX.rf w2, fun R sl S h1 h2 x1 x2 hR t1 t2 _ _ => Or.inr ⟨rfl, ?_⟩⟩
    unfold cmS
    rw [if_pos (Or.inl (t1.y2.mpr c1))]
  rw [if_neg (fun w => c1 (q1.mp w))]
  by_cases c2 : y2 = 2
  · rw [if_pos (q2.mpr c2)]
    refine ⟨T, rfl, FX.rf w2, fun R sl S h1 h2 x1 x2 hR t1 t2 _ _ => Or.inr ⟨rfl, ?_⟩⟩
    unfold cmS
    rw [if_pos (Or.inr (t2.y2.mpr c2))]
  rw [if_neg (fun w => c2 (q2.mp w))]
  have r1 : rkC T y1 < 16 := Nat.mod_lt _ (by omega)
  have r2 : rkC T y2 < 16 := Nat.mod_lt _ (by omega)
  have b1 : bhC T y1 < 131072 := by unfold bhC; have : kO T y1 < 16777216 := kO_lt; omega
  have b2 : bhC T y2 < 131072 := by unfold bhC; have : kO T y2 < 16777216 := kO_lt; omega
  have beq : (nI (bhC T y1) = nI (bhC T y2)) = (bhC T y1 = bhC T y2) := propext ⟨fun w => nI_inj3 (by omega) (by omega) w, fun w => by rw [w]⟩
  obtain ⟨o1, ho1, hi1⟩ := c_outl (nf := nf) (d := d) (T := T) (r := rkC T y1) (s := rkC T y2) r1 r2 w7 w7' (by omega)
  obtain ⟨o2, ho2, hi2⟩ := c_outl (nf := nf) (d := d) (T := T) (r := rkC T y2) (s := rkC T y1) r2 r1 w7 w7' (by omega)
  rw [c_regionOf (by omega) (by omega), bis, c_regionOf (by omega) (by omega), bis, c_behind (by omega) (by omega), bis, c_behind (by omega) (by omega), bis]
  -- the demands
  have tail : ∀ y0 : Int32, ∃ T', rj_Exprs_checkComparison_83 (PP nf d) nf T pl pr (nI (rkC T y1)) (nI (rkC T y2)) y0 = some (0, 0, T') ∧ FX (if y0 = 0 then ntS T 4 pr else T) T' ∧ (¬ y0 = 0 → FX (if fb (flw T) (40 + rkC T y1) = true then T else ntS T 5 pl) T') ∧ (¬ y0 = 0 → fb (flw T) (40 + rkC T y1) = true → T' = if fb (flw T) (40 + rkC T y2) = true then T else ntS T 5 pr) := by
    intro y0
    unfold rj_Exprs_checkComparison_83
    rw [c_dem (by omega), bis, c_live r1 (by omega), bis, c_dem (by omega), bis, c_live r2 (by omega), bis, c_dem (by omega), bis]
    generalize hA : (if y0 = 0 then ntS T 4 pr else T) = A
    have fA : FX T A := by rw [← hA]; exact FX.dm w2
    have tA : A.2 = T.2 := by rw [← hA]; exact dm_2
    have eA : flw A = flw T := by show A.2 77 0 = T.2 77 0; rw [tA]
    rw [eA]
    generalize hB : (if (if fb (flw T) (40 + rkC T y1) = true then (1 : Int32) else 0) = 0 then ntS A 5 pl else A) = B
    have fB : FX A B := by rw [← hB]; exact FX.dm fA.2.2.1
    have tB : B.2 = A.2 := by rw [← hB]; exact dm_2
    have eB : flw B = flw T := by show B.2 77 0 = T.2 77 0; rw [tB, tA]
    rw [eB]
    have fC : FX B (if (if fb (flw T) (40 + rkC T y2) = true then (1 : Int32) else 0) = 0 then ntS B 5 pr else B) := FX.dm fB.2.2.1
    refine ⟨_, rfl, fB.tr fC, fun h0 => ?_, fun h0 hl => ?_⟩
    · have eT : A = T := by rw [← hA, if_neg h0]
      have : B = if fb (flw T) (40 + rkC T y1) = true then T else ntS T 5 pl := by
        rw [← hB, eT]
        by_cases cl : fb (flw T) (40 + rkC T y1) = true
        · rw [if_pos cl, if_neg (show ¬ (1 : Int32) = 0 by decide), if_pos cl]
        · rw [if_neg cl, if_pos rfl, if_neg cl]
      rw [← this]
      exact fC
    · have eT : A = T := by rw [← hA, if_neg h0]
      have : B = T := by
        rw [← hB, eT, if_pos hl, if_neg (show ¬ (1 : Int32) = 0 by decide)]
      rw [this]
      by_cases cl : fb (flw T) (40 + rkC T y2) = true
      · rw [if_pos cl, if_neg (show ¬ (1 : Int32) = 0 by decide), if_pos cl]
      · rw [if_neg cl, if_pos rfl, if_neg cl]
  -- what the class asks first
  have all : ∀ (y0 : Int32), (y0 = 0 ↔ ¬ (bhC T y1 = bhC T y2 ∧ (o1 = true ∨ o2 = true))) → ∃ T', rj_Exprs_checkComparison_83 (PP nf d) nf T pl pr (nI (rkC T y1)) (nI (rkC T y2)) y0 = some (0, 0, T') ∧ FX T T' ∧ ∀ R sl S h1 h2 x1 x2, XR R sl X S T → TyR R S T h1 x1 y1 → TyR R S T h2 x2 y2 → (x1 = -2 ∨ ¬ isPt S x1 = 0) → (x2 = -2 ∨ ¬ isPt S x2 = 0) → BfR (cmS S x1 x2 pl pr).2 T' ∨ (T' = T ∧ cmS S x1 x2 pl pr = (0, S)) := by
    intro y0 hy0
    obtain ⟨T', g1, g2, g3, g4⟩ := tail y0
    refine ⟨T', g1, (FX.dm w2).tr g2, fun R sl S h1 h2 x1 x2 hR t1 t2 n1 n2 => ?_⟩
    have m1 : ¬ x1 = -2 := fun w => c1 (t1.y2.mp w)
    have m2 : ¬ x2 = -2 := fun w => c2 (t2.y2.mp w)
    have k1 := (t1.mc.mp n1).resolve_left c1
    have k2 := (t2.mc.mp n2).resolve_left c2
    rcases t1.rd with ⟨_, e2, e3⟩ | ⟨_, e2, e3⟩ | ⟨_, e2, e3⟩ | ⟨p, kd, r, n', b, g, _, e1, e2, e3, e4, ec, e5, e6, e7, e8, e9, e9', e9'', e10, e11, e12, e13, e14, e15⟩
    · omega
    · omega
    · omega
    rcases t2.rd with ⟨_, i2, i3⟩ | ⟨_, i2, i3⟩ | ⟨_, i2, i3⟩ | ⟨p', kd', r', nn, b', g', _, i1, i2, i3, i4, ic, i5, i6, i7, i8, i9, i9', i9'', i10, i11, i12, i13, i14, i15⟩
    · omega
    · omega
    · omega
    have sb := same_bh hR.2.2.1 w2.1 ec ic e15 i15
    have sm : (¬ sameC S x1 x2 = 0) ↔ bhC T y1 = bhC T y2 := by
      unfold sameC
      rw [e1, i1, nc (by omega), nc (by omega), e14, i14, ← sb]
      by_cases c : S.1 68 p = S.1 68 p' ∧ S.1 69 p = S.1 69 p' ∧ S.1 70 p = S.1 70 p'
      · rw [if_pos c]; exact ⟨fun _ => c, fun _ => by decide⟩
      · rw [if_neg c]; exact ⟨fun w => absurd rfl w, fun w => absurd w c⟩
    have t67 : tf S 67 x1 = nI r := by unfold tf; rw [e1, nc (by omega)]; exact e9'
    have t67' : tf S 67 x2 = nI r' := by unfold tf; rw [i1, nc (by omega)]; exact i9'
    have ov1 := hR.2.2.2.2.2.2.1 r n' r' nn e10 i10
    have ov2 := hR.2.2.2.2.2.2.1 r' nn r n' i10 e10
    have lv1 := hR.2.2.2.2.2.1 r n' e10
    have lv2 := hR.2.2.2.2.2.1 r' nn i10
    rw [e13, i13] at hi1 hi2
    have oo1 : (¬ dOv S (nI r) (nI r') = 0) ↔ o1 = true := ⟨fun w => hi1.mpr (Classical.byContradiction fun v => w (ov1.mpr v)), fun w v => ov1.mp v (hi1.mp w)⟩
    have oo2 : (¬ dOv S (nI r') (nI r) = 0) ↔ o2 = true := ⟨fun w => hi2.mpr (Classical.byContradiction fun v => w (ov2.mpr v)), fun w v => ov2.mp v (hi2.mp w)⟩
    unfold cmS
    rw [if_neg (fun w => w.elim m1 m2), t67, t67']
    by_cases cc : bhC T y1 = bhC T y2 ∧ (o1 = true ∨ o2 = true)
    · have ny : ¬ y0 = 0 := fun w => hy0.mp w cc
      rw [if_pos (show ¬ sameC S x1 x2 = 0 ∧ (¬ dOv S (nI r) (nI r') = 0 ∨ ¬ dOv S (nI r') (nI r) = 0) from ⟨sm.mpr cc.1, cc.2.imp oo1.mpr oo2.mpr⟩)]
      rw [e13] at g3 g4
      rw [i13] at g4
      by_cases l1 : fb (flw T) (40 + n') = true
      · rw [if_neg (fun w => by rw [lv1.mp w] at l1; exact absurd l1 (by decide))]
        have e := g4 ny l1
        by_cases l2 : fb (flw T) (40 + nn) = true
        · rw [if_neg (fun w => by rw [lv2.mp w] at l2; exact absurd l2 (by decide))]
          rw [if_pos l2] at e
          exact Or.inr ⟨e, rfl⟩
        · rw [if_pos (lv2.mpr (by simpa using l2))]
          rw [if_neg l2] at e
          rw [e]
          exact Or.inl (bf_nt (a := 5) hR.h0 hR.h53 (by decide))
      · rw [if_pos (lv1.mpr (by simpa using l1))]
        have := g3 ny
        rw [if_neg l1] at this
        exact Or.inl ((bf_nt (a := 5) hR.h0 hR.h53 (by decide)).fx this)
    · rw [if_neg (show ¬ (¬ sameC S x1 x2 = 0 ∧ (¬ dOv S (nI r) (nI r') = 0 ∨ ¬ dOv S (nI r') (nI r) = 0)) from fun w => cc ⟨sm.mp w.1, w.2.imp oo1.mp oo2.mp⟩)]
      rw [if_pos (hy0.mpr cc)] at g2
      exact Or.inl ((bf_nt (a := 4) hR.h0 hR.h53 (by decide)).fx g2)
  by_cases cb : bhC T y1 = bhC T y2
  · rw [if_pos (beq.mpr cb), ho1, bis]
    cases o1 with
    | true =>
      rw [if_pos rfl, if_neg (by decide)]
      exact all 1 ⟨fun w => absurd w (by decide), fun w => absurd ⟨cb, Or.inl rfl⟩ w⟩
    | false =>
      rw [if_pos (show (if false = true then (1 : Int32) else 0) = 0 from rfl), ho2, bis]
      cases o2 with
      | true =>
        rw [if_pos rfl, if_neg (by decide)]
        exact all 1 ⟨fun w => absurd w (by decide), fun w => absurd ⟨cb, Or.inr rfl⟩ w⟩
      | false =>
        rw [if_pos (show (if false = true then (1 : Int32) else 0) = 0 from rfl)]
        exact all 0 ⟨fun _ w => by rcases w.2 with v | v <;> exact absurd v (by decide), fun _ => rfl⟩
  · rw [if_neg (fun w => cb (beq.mp w))]
    exact all 0 ⟨fun _ w => cb w.1, fun _ => rfl⟩
end CYK
