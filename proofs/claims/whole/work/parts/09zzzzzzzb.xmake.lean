/-! REGIONS that must be LIVE, values, pointers that are made -/
section CYB
variable {R : RgR} {S S' S1 S2 T T' T1 T2 : gSt} {X : Lx} {nf d i k n m t e w c a b q g f h r s y z lo hi dd mb y1 y2 kd : Nat} {x v x' pl u1 u2 u3 : Int32} {sl : Int32 → Int32} {ta tb tr : Tr} {zz : T5}
theorem y_lrg (hX : XO X) (hnf : 16385 ≤ nf) (hw : WX X T) (hi : i < xn X) (hz : ¬ xN X i = 0) (hd : 4 ≤ d) : ∃ r T', PP nf d 162 T [nI i] [] = some (nI r, 0, T') ∧ r < 12 ∧ FX T T' ∧ T'.2 = T.2 ∧ ∀ R sl S, XR R sl X S T → BfR (slS X S i) T' ∨ (slS X S i = S ∧ T' = T ∧ ∃ c, srR X S i = nI c ∧ R c r) := by
  obtain ⟨d, rfl⟩ : ∃ g, d = g + 2 := ⟨d - 2, by omega⟩
  have hxn := hX.1
  obtain ⟨w1, w2, w3, ⟨rn', w4, w4', w4''⟩, w5, w6, ⟨ti, w7, w7'⟩, w8, w9⟩ := hw
  obtain ⟨r, T1, a1, a2, a3, a4⟩ := a_reg (nf := nf) (d := d + 1) hX (by omega) w1 w4 w4' w4'' w2 (i := i) (by omega) (by omega)
  rw [e_Exprs_readLiveRegion _ (d + 1)]
  unfold rb_Exprs_readLiveRegion
  rw [a1, bis, c_live (by omega) (by omega), bis, c_start hX (w1.fh a3) (by omega), bis, c_dem (by omega), bis]
  have fx1 := a3.fx
  have f2 : FX T1 (if (if fb (flw T1) (40 + r) = true then (1 : Int32) else 0) = 0 then ntS T1 5 (nI (xP X i)) else T1) := FX.dm a3.2.2.1
  refine ⟨r, _, rfl, a2, fx1.tr f2, by rw [dm_2]; exact a4, fun R sl S hR => ?_⟩
  rcases b_reg (nf := nf) (d := d + 1) hX (by omega) w1 hR.1.2.1 hR.2.2.2.1 hi hz (by omega) with ⟨c, m', b1, b2, b3, b4, b5⟩ | ⟨b1, b2⟩
  · rw [a1] at b5
    simp only [Option.some.injEq, Prod.mk.injEq, true_and] at b5
    obtain ⟨b5, b6⟩ := b5
    have er : r = m' := nI_inj (by omega) (by omega) b5
    subst er b6
    have p0 : 0 ≤ rgQ X S i := by rw [b1]; exact nI0le (by omega)
    have e1 : srS X S i = S := by unfold srS; rw [if_pos p0]
    have e2 : srR X S i = nI c := by unfold srR; rw [if_pos p0, b1]
    have lv := hR.2.2.2.2.2.1 c r b2
    unfold slS
    rw [e1, e2]
    by_cases cl : fb (flw T1) (40 + r) = true
    · right
      rw [if_neg (fun w => by rw [lv.mp w.2] at cl; exact absurd cl (by decide)), if_pos cl, if_neg (by decide)]
      exact ⟨rfl, rfl, c, rfl, b2⟩
    · left
      rw [if_pos ⟨hR.h0, lv.mpr (by simpa using cl)⟩, if_neg cl, if_pos rfl]
      exact bf_nt (a := 5) hR.h0 hR.h53 (by decide)
  · left
    rw [a1] at b2
    simp only [Option.some.injEq, Prod.mk.injEq, true_and] at b2
    obtain ⟨_, b3⟩ := b2
    have p0 : ¬ 0 ≤ rgQ X S i := by rw [b1]; decide
    have bf : BfR (flT S 3 (nI (xP X i))) T1 := by rw [b3]; exact bf_nt (a := 3) hR.h0 hR.h53 (by decide)
    have e1 : srS X S i = flT S 3 (nI (xP X i)) := by unfold srS; rw [if_neg p0]
    unfold slS
    rw [e1, if_neg (fun w => bf.1 w.1)]
    exact bf.fx f2
/-- checkValue -/
theorem y_val (hX : XO X) (hnf : 16385 ≤ nf) (hC : CE1 nf X tr) (hP : CeP X T tr 1 lo hi z m dd d a b) (hd : 8 * m + 112 ≤ d) (h13 : T.1 13 z = 0) : wp (PP nf (d + 2) 168 T [nI lo, nI dd] []) (fun r _ T' => XA T r T' ∧ ∀ R sl S n y, r = nI y → y < 16387 → XR R sl X S T → Rm X (chk X tr 0 0 S).2.2.2 T tr n → BfR (chk X tr 0 0 S).2.2.2 T' ∨ ((chk X tr 0 0 S).2.2.2.1 7 0 = 0 ∧ (¬ 0 ≤ (chk X tr 0 0 S).1 ∧ BfR (flT (chk X tr 0 0 S).2.2.2 4 (plT X tr)) T' ∨ 0 ≤ (chk X tr 0 0 S).1 ∧ XQ R sl X S T tr 0 0 n y T'))) := by
  have hxn := hX.1
  rw [e_Exprs_checkValue _ (d + 1)]
  unfold rb_Exprs_checkValue
  refine wp_bi (hC.run hnf hX hP hd h13) ?_
  obtain ⟨p1, p2, p3, p4, p5, p6, p7, p8, p9⟩ := hP
  intro r _ T1 ⟨y, y1, y2, y3, y4⟩
  have yl := y2.lt
  rw [y1]
  have q0 : (nI y = (0 : Int32)) = (y = 0) := ci_eq (j := 0) (by omega) (by omega)
  have q2 : (nI y = (2 : Int32)) = (y = 2) := ci_eq (j := 2) (by omega) (by omega)
  have bad : (y = 0 ∨ y = 2) → wp (bi (PP nf (d + 1) 33 T1 [nI lo] []) fun r3 _ T3 => bi (PP nf (d + 1) 47 T3 [(4 : Int32), r3] []) fun _ _ T4 => some ((1 : Int32), (0 : Int64), T4)) (fun r _ T' => XA T r T' ∧ ∀ R sl S n y, r = nI y → y < 16387 → XR R sl X S T → Rm X (chk X tr 0 0 S).2.2.2 T tr n → BfR (chk X tr 0 0 S).2.2.2 T' ∨ ((chk X tr 0 0 S).2.2.2.1 7 0 = 0 ∧ (¬ 0 ≤ (chk X tr 0 0 S).1 ∧ BfR (flT (chk X tr 0 0 S).2.2.2 4 (plT X tr)) T' ∨ 0 ≤ (chk X tr 0 0 S).1 ∧ XQ R sl X S T tr 0 0 n y T'))) := by
    intro hy
    rw [x_begin (nf := nf) (d := d + 1) hX hnf (p9.1.fx y3) (p1.fx y3) p3 p6 (by omega) p4 p5 (by omega), bis, c_note (by omega), bis]
    refine wp_some ⟨⟨1, rfl, tyY_1, y3.tr (FX.nt y3.2.2.1)⟩, fun R sl S n y' hr hy' hR hm => ?_⟩
    have qq := y4 R sl S n hR hm
    unfold XQ XOk at qq
    rcases qq with ⟨a1, a2, ⟨h1, a3⟩, _⟩ | hBf
    · refine Or.inr ⟨a1.h0, Or.inl ⟨?_, bf_nt (a := 4) a1.h0 a1.h53 (by decide)⟩⟩
      rcases hy with w | w
      · rw [a3.y0.mpr w]; decide
      · rw [a3.y2.mpr w]; decide
    · exact Or.inl (hBf.fx (FX.nt y3.2.2.1))
  by_cases c0 : y = 0
  · rw [if_pos (q0.mpr c0)]
    exact bad (Or.inl c0)
  rw [if_neg (fun w => c0 (q0.mp w))]
  by_cases c2 : y = 2
  · rw [if_pos (q2.mpr c2)]
    exact bad (Or.inr c2)
  rw [if_neg (fun w => c2 (q2.mp w))]
  refine wp_some ⟨⟨y, rfl, y2, y3⟩, fun R sl S n y' hr hy' hR hm => ?_⟩
  have ey : y = y' := nI_inj (by omega) (by omega) hr
  subst ey
  have qq := y4 R sl S n hR hm
  have qq' := qq
  unfold XQ XOk at qq
  rcases qq with ⟨a1, a2, ⟨h1, a3⟩, _⟩ | hBf
  · refine Or.inr ⟨a1.h0, Or.inr ⟨?_, qq'⟩⟩
    rcases a3.rd with ⟨e1, e2, _⟩ | ⟨e1, e2, _⟩ | ⟨e1, e2, _⟩ | ⟨p, kd, r, n', b, g, _, e1, e2, e3, e4, _⟩
    · rw [e1]; decide
    · exact absurd e2 c0
    · exact absurd e2 c2
    · rw [e1]; exact nI0le (by omega)
  · exact Or.inl hBf
/-- a pointer or a row that is made -/
theorem ptr_ab (hnf : 16385 ≤ nf) (hW : WT T) (hy : tyY T y) (hr : r < 16) (hk1 : 1 ≤ kd) (hk3 : kd ≤ 3) (hd : 2 ≤ d) : ∃ z T', PP nf d 88 T [nI (kd + 2), nI r, nI y] [] = some (nI z, 0, T') ∧ tyY T' z ∧ FtW T T' ∧ ∀ (R : RgR) (S : gSt) (x : Int32) (f c : Nat), TyR R S T f x y → Tg S → R c r → c < 1024 → lvC T 16384 < 16384 → cn (knS S (nI kd, nI c, x, -1, 0)) < 6000 → TyR R (knS S (nI kd, nI c, x, -1, 0)) T' (f + 1) (knR S (nI kd, nI c, x, -1, 0)) z ∧ TyF S (knS S (nI kd, nI c, x, -1, 0)) T T' ∧ lvC T' 16384 ≤ lvC T 16384 + 1 := by
  have yl := hy.lt
  obtain ⟨z, T', q1, q2, _, q3⟩ := k_ptr (nf := nf) (d := d) (T := T) (k := kd + 2) (r := r) (b := y) hnf hW (by omega) (by omega) hr hy hd
  refine ⟨z, T', q1, q2, q3, fun R S x f c hT hg hR hc hlv hcn => ?_⟩
  obtain ⟨s, T'', p1, p2⟩ := c_ptr (nf := nf) (d := d) (T := T) (k := kd + 2) (r := r) (b := y) hnf hW.1 hlv (by omega) hr (by omega) hd
  rw [p1] at q1
  simp only [Option.some.injEq, Prod.mk.injEq, true_and] at q1
  obtain ⟨z1, rfl⟩ := q1
  have zs : s + 3 = z := nI_inj (by have := p2.1; omega) (by have := q2.lt; omega) z1
  subst zs
  exact ⟨ty_ptr hg hcn rfl hk1 hk3 hR hc hr hT p2, TyF.kn hg hcn p2, p2.2.2.2.2.2.2.2.1⟩
theorem XR.kn (hR : XR R sl X S T) (hk : FtW T T') (hF : TyF S (knS S zz) T T') (ck : Ck (knS S zz)) : XR R sl X (knS S zz) T' := by
  refine hR.fx hF FE.kn hk.fx (by rw [knS_o (by omega)]; exact hR.h0) (by rw [hk.1]; exact hR.h53) ck (hR.2.2.2.2.2.2.2.2.2.2.st (by rw [hk.1]) (fun k a b => by rw [knS_o (by omega)]))
/-- makes, counted -/
theorem CtR.mk (hh : CtR S T) : CtR (mkS S) (sI T 52 6 (T.1 52 6 + 1)) := by
  have s3 : ∀ k, k ≠ 6 → (sI T 52 6 (T.1 52 6 + 1)).1 52 k = T.1 52 k := fun k hk => by rw [rdI, if_neg (fun w => hk w.2)]
  have n8 : ∀ k, k ≠ 91 → (mkS S).1 k 0 = S.1 k 0 := fun k hk => by unfold mkS; rw [sI_ne hk]
  have n91 : (mkS S).1 91 0 = S.1 91 0 + 1 := by unfold mkS; rw [sI_v]
  unfold CtR at hh ⊢
  rw [s3 2 (by omega), s3 3 (by omega), s3 4 (by omega), s3 5 (by omega), sI_v, n8 92 (by omega), n8 88 (by omega), n8 89 (by omega), n8 90 (by omega), n91, hh.2.2.2.2]
  exact ⟨hh.1, hh.2.1, hh.2.2.1, hh.2.2.2.1, rfl⟩
theorem mk_o : ∀ k, ¬ (88 ≤ k ∧ k ≤ 92) → (mkS S).1 k = S.1 k := fun k hk => by
  unfold mkS
  rw [sI_ne (by omega)]
/-- a make: counted, its row laid, its pointer kept -/
theorem XR.mk (hR : XR R sl X S T) (h51 : T.1 51 0 = nI n) (hn : n < 6032) (hk : FtW (emS (sI T 52 6 (T.1 52 6 + 1)) n u1 u2 u3) T') (hF : TyF (mkS S) (knS (mkS S) zz) (emS (sI T 52 6 (T.1 52 6 + 1)) n u1 u2 u3) T') (hc : cn S < 6000) (ck : Ck (knS (mkS S) zz)) : XR R sl X (knS (mkS S) zz) T' ∧ TyF S (knS (mkS S) zz) T T' ∧ FX T T' ∧ FE S (knS (mkS S) zz) ∧ T'.1 51 0 = nI (n + 1) ∧ cw3 T' n = (u1, u2, u3) ∧ TyF S (mkS S) T (emS (sI T 52 6 (T.1 52 6 + 1)) n u1 u2 u3) := by
  obtain ⟨a1, a2, a3, a4, a5⟩ := hR.em (S2 := mkS S) (T5 := sI T 52 6 (T.1 52 6 + 1)) (u1 := u1) (u2 := u2) (u3 := u3) h51 hn mk_o rfl rfl (fun k j hk => by rw [rdI, if_neg (fun w => hk ⟨w.1, by omega⟩)]) (hR.2.1.wr (by omega) hc) hR.2.2.2.2.2.2.2.2.2.2.mk
  refine ⟨a1.kn hk hF ck, a2.tr hF, a3.tr hk.fx, a4.tr FE.kn, by rw [hk.1]; exact em_51, ?_, a2⟩
  unfold cw3
  rw [hk.1]
  exact em_row
end CYB
