/-! new: what is made of its arguments -/
/-- the arguments of new, as a list -/
def NwL (X : Lx) (T : gSt) (tr : Tr) (lo hi m dd d a b N : Nat) : Prop := RcG X T tr 2 (lo + 1) hi 0 ∧ T.1 17 lo = (if isZ tr = true then 0 else nI (lo + 1)) ∧ 1 ≤ lo ∧ lo < hi ∧ hi ≤ 4008 ∧ Wf X tr true a b ∧ b ≤ xn X ∧ XG X tr m 2 ∧ (isZ tr = true ∨ dd + 1 + m = 20) ∧ (isZ tr = true ∨ 8 * m + 114 ≤ d) ∧ WX X T ∧ ndT tr ≤ N
section CYV
variable {R : RgR} {S S' S0 S1 S2 T T' T1 T2 : gSt} {X : Lx} {nf d i k n m t e w c a b q g f h r s y z lo hi dd mb y1 y2 kd kw kw1 lv lv1 st u h1 h2 zw np N W cnt tk : Nat} {x v x' pl pr u1 u2 u3 op x1 x2 : Int32} {sl : Int32 → Int32} {ta tb tr : Tr} {o : Bool}
theorem NwL.fx (h : NwL X T tr lo hi m dd d a b N) (hF : FX T T') : NwL X T' tr lo hi m dd d a b N := by
  obtain ⟨a1, a2, a3, a4, a5, a6, a7, a8, a9, a10, a11, a12⟩ := h
  exact ⟨a1.fx hF, by rw [hF.o (by omega)]; exact a2, a3, a4, a5, a6, a7, a8, a9, a10, a11.fx hF, a12⟩
/-- told keeps the kind -/
theorem told_kd (hnf : 16385 ≤ nf) (hW : WT T) (hk : tyY T y) (hk5 : kdC T y ≤ 5) (hg : g < 4096) (hl : lvC T 16384 + 7 < 16384) (hd : 84 ≤ d) (hz : z < 16387) (hh : PP nf d 98 T [nI y, nI g, nI 1] [] = some (nI z, 0, T')) : kdC T' z = kdC T y := by
  obtain ⟨d, rfl⟩ : ∃ g, d = g + 1 := ⟨d - 1, by omega⟩
  have hy := hk.lt
  rcases told_s (nf := nf) (d := d) (g := g) (dp := 1) hnf hW hk hg (by omega) (by omega) with ⟨c, e⟩ | ⟨c, _⟩ | ⟨c1, c2, c3, e⟩
  · rw [hh] at e
    simp only [Option.some.injEq, Prod.mk.injEq, true_and] at e
    obtain ⟨e1, rfl⟩ := e
    have : z = y := nI_inj (by omega) (by omega) e1
    rw [this]
  · omega
  · rw [e] at hh
    have rl : rkC T y < 16 := Nat.mod_lt _ (by omega)
    have tl : t1C g (rkC T y) < 16 := t1_lt rl
    obtain ⟨zb, Tb, b1, b2, b3, b4, b5, b6⟩ := told_c (nf := nf) (g := g) hnf hg 5 (1 + 1) (bhC T y) d T hW (by omega) (by omega) c3 (by omega) (by omega)
    have zl := b2.lt
    obtain ⟨s, T2, p1, p2⟩ := c_ptr (nf := nf) (d := d) (T := Tb) (k := kdC T y) (r := t1C g (rkC T y)) (b := zb) hnf b3.2.2.1.1 (by omega) (by omega) tl (by omega) (by omega)
    rw [b1, bis, p1, bis] at hh
    simp only [Option.some.injEq, Prod.mk.injEq, true_and] at hh
    obtain ⟨e1, rfl⟩ := hh
    have sl := p2.1
    have : s + 3 = z := nI_inj (by omega) (by omega) e1
    subst this
    have ekm : KM = 16777216 := rfl
    have ky := p2.key (by omega)
    rw [show kdC T2 (s + 3) = kO T2 (s + 3) % 8 by unfold kdC; rw [if_neg (by omega)], ky.1]
    omega
theorem chk0 (h13 : T.1 13 0 = 0) (hnf : 1 ≤ nf) (hd : 1 ≤ d) : PP nf (d + 1) 139 T [(0 : Int32), x] [] = some (0, 0, T) := by
  obtain ⟨d, rfl⟩ : ∃ g, d = g + 1 := ⟨d - 1, by omega⟩
  obtain ⟨nf, rfl⟩ : ∃ g, nf = g + 1 := ⟨nf - 1, by omega⟩
  rw [e_Exprs_check]
  unfold rb_Exprs_check
  rw [e_Exprs_checkTerm]
  unfold rb_Exprs_checkTerm
  rw [if_pos rfl, bis, gd, if_pos (by decide), vK, show (0 : Int32).toNatClampNeg = 0 from rfl, h13, rl_Exprs_check_22, if_pos rfl]
theorem beg0 (hX : XO X) (hT : TkC X T) (h11 : T.1 11 0 = 0) (h12 : T.1 12 0 = 0) (hnf : 1 ≤ nf) (hd : 2 ≤ d) : PP nf d 33 T [nI 0] [] = some (nI (xP X 0), 0, T) := by
  obtain ⟨d, rfl⟩ : ∃ g, d = g + 2 := ⟨d - 2, by omega⟩
  obtain ⟨nf, rfl⟩ : ∃ g, nf = g + 1 := ⟨nf - 1, by omega⟩
  rw [e_Source_beginOf _ (d + 1)]
  unfold rb_Source_beginOf
  rw [rl_Source_beginOf_4, if_neg (by decide), gd, if_pos (by decide), show (nI 0).toNatClampNeg = 0 from rfl, h11, if_neg (by decide), gd, if_pos (by decide), h12, show (0 : Int32) = nI 0 from rfl, c_start hX hT (by omega), bis]
theorem y_fits0 (hX : XO X) (hnf : 16385 ≤ nf) (hw : WX X T) (hz : tyY T zw) (hd : 8 ≤ d) : ∃ T', PP nf (d + 2) 140 T [(0 : Int32), nI zw, x] [] = some (0, 0, T') ∧ FX T T' := by
  obtain ⟨ti, w7, w7', k1, k2, k3⟩ := hw.2.2.2.2.2.2.1
  obtain ⟨o, g1, g2⟩ := y_dfit (nf := nf) (d := d) (y := 0) (lo := 0) hw (Or.inl (by omega)) hz (beg0 hX hw.1 k1 k2 (by omega) (by omega)) (by omega)
  rw [e_Exprs_checkFits _ (d + 1)]
  unfold rb_Exprs_checkFits
  rw [chk0 k3 (by omega) (by omega), bis, show PP nf (d + 1) 141 T [(0 : Int32), nI zw, 0] [] = _ from g1, bis]
  exact ⟨_, rfl, FX.fi hw.2.1⟩
/-- makeStruct -/
theorem y_mst (hX : XO X) (hnf : 16385 ≤ nf) (hI : ∀ t, ndT t < N → CE1 nf X t) (hl : NwL X T tr lo hi m dd d a b N) (hy : tyY T y) (htb : tbC T y = nI t) (ht : t < 24) (hit : t < itN T) (htk : tk < 90000) (hd : 90 ≤ d) : wp (PP nf (d + 2) 165 T [nI lo, nI y, nI tk, nI dd] []) (fun _ _ T' => FX T T' ∧ ∃ np, T.1 32 t = nI np ∧ np ≤ 8 ∧ ((¬ lenT tr = np ∧ T' = ntS T 7 (nI (xP X tk))) ∨ (lenT tr = np ∧ ∃ T2, FX T T2 ∧ FX T2 T' ∧ (∀ n, T2.1 51 0 = nI n → n < 6032 → T' = emS T2 n 40 (nI (rkC T2 y)) (T2.1 41 t)) ∧ ∀ R sl S n W c, XR R sl X S T → DgR R W (rbC T y) → S.1 18 t = nI c → t < inn S → T.1 51 0 = nI n → n + kwT tr ≤ 6032 → lvC T 16384 + lvT X tr + 30 < 16384 → cn (chk X tr c (nI W) S).2.2.2 < 6000 → agOk S c (nI W) tr → XAg R sl X S T (chk X tr c (nI W) S) (kwT tr) (lvT X tr) n T2))) := by
  obtain ⟨l1, l2, l3, l4, l5, l6, l7, l8, l9, l10, l11, l12⟩ := hl
  have hxn := hX.1
  have yl := hy.lt
  have zl : inb (nI lo) 4008 := nin (by omega) (by omega)
  have zt : inb (nI t) 24 := nin ht (by omega)
  have ct : (nI t).toNatClampNeg = t := nc (by omega)
  have rl : rbC T y < 4096 := Nat.mod_lt _ (by omega)
  obtain ⟨np, j1', j2, j3, j4, j5⟩ := l11.2.2.2.2.2.2.2.2 t hit
  have np8 := j1'.2.1
  have hlen := (Wf_le _ true _ _ l6).2 rfl
  rw [e_Exprs_makeStruct _ (d + 1)]
  unfold rb_Exprs_makeStruct
  rw [c_titleBehind (by omega) (by omega), bis, gd, if_pos zl, nc (by omega), l2, c_peers (nf := nf) (d := d + 1) hX hnf l1 (by omega) l5 l6 l7 (by omega), bis, htb, gd, if_pos zt, ct, j1'.1]
  have ql : (nI (lenT tr) = nI np) = (lenT tr = np) := ci_eq (by omega) (by omega)
  by_cases cl : lenT tr = np
  · rw [if_pos (ql.mpr cl), gd, if_pos zl, c_regionsBehind (by omega) (by omega), bis, l2, e_Exprs_checkParts]
    unfold rb_Exprs_checkParts
    show wp (bi (rl_Exprs_checkParts_6 (PP nf d) nf nf T (nI t) (nI (rbC T y)) (nI dd) (if isZ tr = true then 0 else nI (lo + 1)) (nI 0)) _) _
    refine wp_bi (y_args (nf := nf) (d := d) (dd := dd) (N := N) (np := np) hX hnf hI ht rl np8 tr T (lo + 1) hi a b m 0 nf l12 l1 (by omega) l5 l6 l7 l8 l9 l10 l11 hit j1'.1 (by omega) (by omega)) ?_
    intro _ _ T2 ⟨f2, hAg⟩
    rw [c_regionOf (by omega) (by omega), bis, gd, if_pos zt]
    obtain ⟨r3, T3, m1, m2, m3⟩ := a_emit (nf := nf) (d := d + 1) (T := T2) (x := 40) (y := nI (rkC T2 y)) (z := T2.1 41 t) f2.2.2.1 (l11.fx f2).2.2.2.2.2.1 (by omega)
    rw [m1, bis]
    refine wp_some ⟨f2.tr m2, np, rfl, np8, Or.inr ⟨cl, T2, f2, m2, m3, fun R sl S n W c hR hD h18 h3 h4 h5 h6 h7 h8 => ?_⟩⟩
    have := hAg R sl S n W c hR hD h18 h3 h4 h5 h6
    rw [Nat.add_zero] at this
    exact this h7 h8
  · rw [if_neg (fun w => cl (ql.mp w)), c_start hX l11.1 (by omega), bis, c_note (by omega), bis]
    exact wp_some ⟨FX.nt l11.2.1, np, rfl, np8, Or.inl ⟨cl, rfl⟩⟩
/-- makeUnion -/
def MuQ (nf d : Nat) (X : Lx) (T : gSt) (ta : Tr) (y t np tk : Nat) (T' : gSt) : Prop := (ff (isPn X T t (xN X tk)) 0 np = -1 ∧ T' = ntS T 3 (nI (xP X tk))) ∨ ∃ q yf zw T1 yv T2 o, ff (isPn X T t (xN X tk)) 0 np = nI q ∧ q < np ∧ T.1 44 (8 * t + q) = nI yf ∧ tyY T yf ∧ PP nf (d + 1) 98 T [nI yf, nI (rbC T y), nI 1] [] = some (nI zw, 0, T1) ∧ tyY T1 zw ∧ FtW T T1 ∧ CeQ X T1 ta yv T2 ∧ (o = true ↔ ouC T2 (rkC T2 yv) (rkC T2 zw)) ∧ FX (fiS T2 yv zw o (plT X ta)) T' ∧ ∀ n, (fiS T2 yv zw o (plT X ta)).1 51 0 = nI n → n < 6032 → T' = emS (fiS T2 yv zw o (plT X ta)) n 41 (nI (rkC (fiS T2 yv zw o (plT X ta)) y) ||| ((nI q + 1) <<< ((4 : Int32) &&& 31))) (nI (wdC (fiS T2 yv zw o (plT X ta)) zw) ||| ((fiS T2 yv zw o (plT X ta)).1 41 t <<< ((8 : Int32) &&& 31)))
theorem y_mun (hX : XO X) (hnf : 16385 ≤ nf) (hI : ∀ t, ndT t < N → CE1 nf X t) (hl : NwL X T tr lo hi m dd d a b N) (hy : tyY T y) (htb : tbC T y = nI t) (ht : t < 24) (hit : t < itN T) (htk : tk < 90000) (hd : 95 ≤ d) : wp (PP nf (d + 2) 164 T [nI lo, nI y, nI tk, nI dd] []) (fun _ _ T' => FX T T' ∧ ∃ np, WP X T t np ∧ ∀ ta, tr = tD 10 0 0 ta tZ → tk < xn X → MuQ nf d X T ta y t np tk T') := by
  obtain ⟨l1, l2, l3, l4, l5, l6, l7, l8, l9, l10, l11, l12⟩ := hl
  have hxn := hX.1
  have yl := hy.lt
  have zl : inb (nI lo) 4008 := nin (by omega) (by omega)
  have zt : inb (nI t) 24 := nin ht (by omega)
  have ct : (nI t).toNatClampNeg = t := nc (by omega)
  have rl : rbC T y < 4096 := Nat.mod_lt _ (by omega)
  obtain ⟨np, j1', j2, j3, j4, j5⟩ := l11.2.2.2.2.2.2.2.2 t hit
  have np8 := j1'.2.1
  obtain ⟨nm, n1, n2⟩ := c_nm (nf := nf) (d := d) (i := tk) hX l11.1 (by omega)
  rw [e_Exprs_makeUnion _ (d + 1)]
  unfold rb_Exprs_makeUnion
  rw [c_titleBehind (by omega) (by omega), bis, n1, bis, htb, c_findPart (nf := nf) (d := d + 1) hX (by omega) l11.1 ht j1' (by omega), bis]
  rcases ff_val (p := isPn X T t nm) (i := 0) (k := np) with vv | ⟨q, _, q1, _, vv⟩
  · rw [vv, if_pos rfl, c_start hX l11.1 (by omega), bis, c_note (by omega), bis]
    refine wp_some ⟨FX.nt l11.2.1, np, j1', fun ta _ hk => Or.inl ?_⟩
    rw [n2 hk] at vv
    exact ⟨vv, rfl⟩
  · obtain ⟨yf, y1, y2⟩ := j2 q (by omega)
    rw [vv, if_neg (nI_m1 (by omega)), c_typeOf (nf := nf) (d := d + 1) ht (by omega) (by omega), bis, y1, c_regionsBehind (by omega) (by omega), bis]
    obtain ⟨zw, T1, k1, k2, k3⟩ := k_told (nf := nf) (g := rbC T y) hnf rl 6 1 yf (d + 1) T l11.2.1 (by omega) (by omega) y2 (by omega)
    rw [show PP nf (d + 1) 98 T [nI yf, nI (rbC T y), (1 : Int32)] [] = _ from k1, bis, gd, if_pos zl, nc (by omega)]
    have fx1 := k3.fx
    have W1 := l11.fx fx1
    rw [fx1.o (k := 17) (by omega), l2]
    -- behind the value
    have tail : ∀ T3, FX T1 T3 → wp (bi (PP nf (d + 1) 92 T3 [nI y] []) fun r10 _ T10 => bi (PP nf (d + 1) 97 T10 [nI zw] []) fun r11 _ T11 => gd (inb (nI t) 24) <| bi (PP nf (d + 1) 51 T11 [(41 : Int32), r10 ||| ((nI q + (1 : Int32)) <<< ((4 : Int32) &&& 31)), r11 ||| ((T11.1 41 (nI t).toNatClampNeg) <<< ((8 : Int32) &&& 31))] []) fun r13 _ T13 => some (0, 0, T13)) (fun _ _ T' => FX T3 T' ∧ ∀ n, T3.1 51 0 = nI n → n < 6032 → T' = emS T3 n 41 (nI (rkC T3 y) ||| ((nI q + 1) <<< ((4 : Int32) &&& 31))) (nI (wdC T3 zw) ||| (T3.1 41 t <<< ((8 : Int32) &&& 31)))) := by
      intro T3 f3
      have zwl := k2.lt
      rw [c_regionOf (by omega) (by omega), bis, c_wordsOf (by omega) (by omega), bis, gd, if_pos zt, ct]
      obtain ⟨r3, T4, m1, m2, m3⟩ := a_emit (nf := nf) (d := d + 1) (T := T3) (x := 41) (y := nI (rkC T3 y) ||| ((nI q + 1) <<< ((4 : Int32) &&& 31))) (z := nI (wdC T3 zw) ||| (T3.1 41 t <<< ((8 : Int32) &&& 31))) f3.2.2.1 (W1.fx f3).2.2.2.2.2.1 (by omega)
      rw [m1, bis]
      exact wp_some ⟨m2, m3⟩
    obtain ⟨d2, rfl⟩ : ∃ g, d = g + 1 := ⟨d - 1, by omega⟩
    induction tr using Tr_ind with
    | hz tr hz =>
      unfold RcG at l1
      split at l1
      · exact absurd rfl (hz _ _ _ _ _)
      · rename_i q'
        rw [show (if isZ (Lean.Grind.CommRing.Expr.num q') = true then (0 : Int32) else nI (lo + 1)) = 0 from rfl]
        obtain ⟨T3, g1, g2⟩ := y_fits0 (nf := nf) (d := d2) (x := nI dd + 1) hX hnf W1 k2 (by omega)
        rw [g1, bis]
        refine wp_mono (tail T3 g2) ?_
        intro _ _ T' ⟨f4, _⟩
        exact ⟨(fx1.tr g2).tr f4, np, j1', fun ta h => by cases h⟩
      · exact l1.elim
    | h kk i e ua ub _ _ =>
      rw [RcG_n] at l1
      unfold RcN at l1
      rw [if_pos rfl] at l1
      obtain ⟨c10, _, mm, r1, r2, ⟨yl', r3, r4⟩, r5, r6⟩ := l1
      rw [Wf_n] at l6
      unfold WfN at l6
      rw [if_pos rfl] at l6
      obtain ⟨_, b1, c1, f1, f2, f3⟩ := l6
      have le1 := (Wf_le _ false _ _ f2).1 rfl
      have le2 := Wf_le2 f3
      rw [XG_n] at l8
      unfold xgN at l8
      rw [if_pos rfl] at l8
      obtain ⟨_, x1, x2⟩ := l8
      have hm' : dd + 1 + m = 20 := by
        rcases l9 with w | w
        · cases w
        · exact w
      have hd' : 8 * m + 114 ≤ d2 + 1 := by
        rcases l10 with w | w
        · cases w
        · exact w
      rw [ndT_n] at l12
      rw [show (if isZ (tD kk i e ua ub) = true then (0 : Int32) else nI (lo + 1)) = nI (lo + 1) from rfl, nI_1]
      refine wp_bi (y_fits (nf := nf) (d := d2) (m := m) (dd := dd + 1) hX hnf (hI ua (by omega)) ⟨r3.fx fx1, by omega, by omega, f2, by omega, x1, by omega, by omega, W1⟩ (by omega) (by rw [fx1.o (by omega)]; exact r4) k2) ?_
      intro _ _ T3 ⟨yv, T2, o, hq, ho, e3⟩
      have fx2 := hq.2.1
      have fx3 : FX T2 T3 := by rw [e3]; exact FX.fi fx2.2.2.1
      refine wp_mono (tail T3 (fx2.tr fx3)) ?_
      intro _ _ T' ⟨f4, h4⟩
      refine ⟨((fx1.tr fx2).tr fx3).tr f4, np, j1', fun ta hta hk => Or.inr ?_⟩
      have eta : ua = ta := by
        unfold tD at hta
        injection hta with _ h2
        injection h2
      subst eta
      rw [n2 hk] at vv
      rw [e3] at f4 h4
      exact ⟨q, yf, zw, T1, yv, T2, o, vv, by omega, y1, y2, k1, k2, k3, hq, ho, f4, h4⟩
end CYV
