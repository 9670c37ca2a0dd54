/-! an element of a row -/
section CXY
variable {R : RgR} {S S' S1 S2 T T' T1 T2 : gSt} {X : Lx} {nf d i k n m t e w c a b q g f h r s y z lo hi dd mb : Nat} {x v x' pl : Int32} {sl : Int32 → Int32} {ta tb tr : Tr}
/-- an EXPR's check, all of it -/
theorem CE1.run (hC : CE1 nf X tr) (hnf : 16385 ≤ nf) (hX : XO X) (hP : CeP X T tr 1 lo hi z m dd d a b) (hd : 8 * m + 112 ≤ d) (h13 : T.1 13 z = 0) : wp (PP nf (d + 1) 139 T [nI lo, nI dd] []) (fun r _ T' => ∃ y, r = nI y ∧ CeQ X T tr y T') := by
  have hxn := hX.1
  rw [e_Exprs_check]
  unfold rb_Exprs_check
  refine hC T lo hi z a b m dd d _ hP hd ?_
  intro y T' hq
  have := (tl_le tr a b hP.2.2.2.1).2
  have hb := hP.2.2.2.2.1
  obtain ⟨fl, hfl⟩ : ∃ g, nf - opN tr = g + 1 := ⟨nf - opN tr - 1, by omega⟩
  rw [hfl, h13, rl_Exprs_check_22, if_pos rfl]
  exact wp_some ⟨y, rfl, hq⟩
/-- where it begins, told again -/
theorem x_begin (hX : XO X) (hnf : 16385 ≤ nf) (hT : TkC X T) (h : RcG X T tr 1 lo hi z) (hhi : hi ≤ 4008) (hg : XG X tr m 1) (hm : m ≤ 20) (hw : Wf X tr false a b) (hb : b ≤ xn X) (hd : 2 ≤ d) : PP nf d 33 T [nI lo] [] = some (plT X tr, 0, T) := by
  have := XG.fs tr m 1 (by omega) hg
  exact c_begin hX (by omega) hT (by omega) h hhi (by omega) this.2 hw hb hd
def IxO (R : RgR) (sl : Int32 → Int32) (X : Lx) (S S' T : gSt) (ty op : Int32) (js : List T5) (kw lv n y : Nat) (T' : gSt) : Prop := XR R sl X S' T' ∧ TyF S S' T T' ∧ (∃ h, TyR R S' T' h ty y) ∧ T'.1 51 0 = nI (n + (ksE js).length + 1) ∧ KrL R sl S' T' (ksE js) n ∧ (∃ c, wdR R S' T' ty c ∧ cw3 T' (n + (ksE js).length) = (op, 0, c)) ∧ (ksE js).length ≤ kw ∧ kGo js ∧ lvC T' 16384 ≤ lvC T 16384 + lv
/-- checkIndex -/
theorem y_idx {u : Nat} (hX : XO X) (hnf : 16385 ≤ nf) (hB : CE1 nf X tb) (hw : WX X T) (hy : tyY T y) (hz1 : 1 ≤ z) (hz : z < 4008) (h17 : T.1 17 z = nI (z + 1)) (hc : cRX T (RcG X T tb) (z + 1) hi) (hhi : hi ≤ 4008) (hwf : Wf X tb false a b) (hb : b ≤ xn X) (hg : XG X tb mb 1) (hdd : dd + 1 + mb = 20) (hu : u ≤ 2) (hd : 8 * mb + 116 ≤ d) : wp (PP nf d 153 T [nI z, nI y, pl, nI u, nI dd] []) (fun r _ T' => XA T r T' ∧ ∀ R sl S n y' h x, r = nI y' → y' < 16387 → XR R sl X S T → TyR R S T h x y → T.1 51 0 = nI n → n + kwT tb + 1 ≤ 6032 → lvC T 16384 + lvT X tb + 30 < 16384 → cn (chk X tb 0 0 S).2.2.2 < 6000 → Ck (ixC (chk X tb 0 0 S).2.2.2 x (chk X tb 0 0 S).1 pl (plT X tb)).2 → BfR (chk X tb 0 0 S).2.2.2 T' ∨ ((chk X tb 0 0 S).2.2.2.1 7 0 = 0 ∧ (BfR (ixC (chk X tb 0 0 S).2.2.2 x (chk X tb 0 0 S).1 pl (plT X tb)).2 T' ∨ IxO R sl X S (ixC (chk X tb 0 0 S).2.2.2 x (chk X tb 0 0 S).1 pl (plT X tb)).2 T (ixC (chk X tb 0 0 S).2.2.2 x (chk X tb 0 0 S).1 pl (plT X tb)).1 (if u = 0 then 30 else if u = 1 then 31 else 32) (chk X tb 0 0 S).2.2.1 (kwT tb) (lvT X tb) n y' T'))) := by
  obtain ⟨d, rfl⟩ : ∃ g, d = g + 2 := ⟨d - 2, by omega⟩
  have hxn := hX.1
  obtain ⟨yl, c1, c2⟩ := hc
  have zz : inb (nI z) 4008 := nin hz (by omega)
  rw [e_Exprs_checkIndex _ (d + 1)]
  unfold rb_Exprs_checkIndex
  rw [gd, if_pos zz, nc (by omega), vK, h17, nI_1]
  refine wp_bi (hB.run (d := d) (m := mb) (dd := dd + 1) hnf hX ⟨c1, by omega, hhi, hwf, hb, hg, by omega, by omega, hw⟩ (by omega) c2) ?_
  intro r3 _ T3 ⟨y3, e3, q1, f3, q3⟩
  rw [e3]
  have x3 := hw.fx f3
  have w3 := f3.2.2.1
  have hy3 := f3.2.2.2.1 _ hy
  have yl3 := hy3.lt
  have y3l := q1.lt
  rw [c_kindOf (by omega) (by omega), bis]
  have kl := kdC_lt (T := T3) (y := y)
  have q5 : (nI (kdC T3 y) = (5 : Int32)) = (kdC T3 y = 5) := ci_eq (j := 5) (by omega) (by omega)
  by_cases c5 : kdC T3 y = 5
  · rw [if_pos (q5.mpr c5)]
    have y3' : ¬ y < 3 := fun w => by unfold kdC at c5; rw [if_pos w] at c5; omega
    have hbh : tyY T3 (bhC T3 y) := by
      rcases kO_v w3 hy3 with h | h
      · exact absurd h y3'
      · rcases h.2 with w | w
        · unfold kdC at c5; rw [if_neg y3'] at c5; omega
        · exact w.2.2
    have bl := hbh.lt
    have rl : rkC T3 y < 16 := Nat.mod_lt _ (by omega)
    rw [c_regionOf (by omega) (by omega), bis, c_live rl (by omega), bis, c_dem (by omega), bis]
    generalize hT8 : (if (if fb (flw T3) (40 + rkC T3 y) = true then (1 : Int32) else 0) = 0 then ntS T3 5 pl else T3) = T8
    have f8 : FX T3 T8 := by rw [← hT8]; exact FX.dm w3
    have t8 : T8.2 = T3.2 := by rw [← hT8]; exact dm_2
    have c8 := (c1.fx f3).fx f8
    have tk8 := (hw.1.fx f3).fx f8
    have q1' : (nI y3 = (1 : Int32)) = (y3 = 1) := ci_eq (j := 1) (by omega) (by omega)
    have tail : ∀ y0 : Int32, ∃ T6, rj_Exprs_checkIndex_79 (PP nf (d + 1)) nf T8 (nI y) (nI u) (nI (z + 1)) y0 = some (nI (bhC T3 y), 0, T6) ∧ FX (if y0 = 0 then ntS T8 4 (plT X tb) else T8) T6 ∧ ∀ n, T8.1 51 0 = nI n → n < 6032 → ¬ y0 = 0 → T6 = emS (sI T8 52 4 (T8.1 52 4 + 1)) n (if u = 0 then 30 else if u = 1 then 31 else 32) 0 (nI (wdC (sI T8 52 4 (T8.1 52 4 + 1)) (bhC T3 y))) := by
      intro y0
      unfold rj_Exprs_checkIndex_79
      rw [x_begin (nf := nf) (d := d + 1) hX hnf tk8 c8 hhi hg (by omega) hwf hb (by omega), bis, c_dem (by omega), bis]
      generalize hT9 : (if y0 = 0 then ntS T8 4 (plT X tb) else T8) = T9
      have f9 : FX T8 T9 := by rw [← hT9]; exact FX.dm f8.2.2.1
      have t9 : T9.2 = T8.2 := by rw [← hT9]; exact dm_2
      rw [show (4 : Int32) = nI 4 from rfl, c_tally (by omega) (by omega), bis]
      have f10 : FX T9 (sI T9 52 4 (T9.1 52 4 + 1)) := FX.ta f9.2.2.1 (by omega)
      have eb : bhC (sI T9 52 4 (T9.1 52 4 + 1)) y = bhC T3 y := by
        show bhC T9 y = _
        unfold bhC kO SW
        rw [t9, t8]
      rw [c_behind (by omega) (by omega), bis, eb]
      have go : ∀ op : Int32, ∃ T6, rj_Exprs_checkIndex_133 (PP nf (d + 1)) nf (sI T9 52 4 (T9.1 52 4 + 1)) (nI (bhC T3 y)) op = some (nI (bhC T3 y), 0, T6) ∧ FX T9 T6 ∧ ∀ n, T9.1 51 0 = nI n → n < 6032 → T6 = emS (sI T9 52 4 (T9.1 52 4 + 1)) n op 0 (nI (wdC (sI T9 52 4 (T9.1 52 4 + 1)) (bhC T3 y))) := by
        intro op
        unfold rj_Exprs_checkIndex_133
        obtain ⟨r, T6, m1, m2, m3⟩ := a_emit (nf := nf) (d := d + 1) (T := sI T9 52 4 (T9.1 52 4 + 1)) (x := op) (y := 0) (z := nI (wdC (sI T9 52 4 (T9.1 52 4 + 1)) (bhC T3 y))) f10.2.2.1 ((((x3.fx f8).fx f9).fx f10).2.2.2.2.2.1) (by omega)
        exact ⟨T6, by rw [c_wordsOf (by omega) (by omega), bis, m1, bis], f10.tr m2, fun n hn hn2 => m3 n (by rw [sI_ne (by omega)]; exact hn) hn2⟩
      have fin : ∀ op : Int32, (∃ T6, rj_Exprs_checkIndex_133 (PP nf (d + 1)) nf (sI T9 52 4 (T9.1 52 4 + 1)) (nI (bhC T3 y)) op = some (nI (bhC T3 y), 0, T6) ∧ FX T9 T6 ∧ ∀ n, T8.1 51 0 = nI n → n < 6032 → ¬ y0 = 0 → T6 = emS (sI T8 52 4 (T8.1 52 4 + 1)) n op 0 (nI (wdC (sI T8 52 4 (T8.1 52 4 + 1)) (bhC T3 y)))) := by
        intro op
        obtain ⟨T6, g1, g2, g3⟩ := go op
        refine ⟨T6, g1, g2, fun n hn hn2 h0 => ?_⟩
        have eT : T9 = T8 := by rw [← hT9, if_neg h0]
        rw [eT] at g3
        exact g3 n hn hn2
      by_cases u0 : u = 0
      · subst u0
        rw [if_pos (show nI 0 = (0 : Int32) from rfl), if_pos rfl]
        exact fin 30
      · rw [if_neg (show ¬ nI u = (0 : Int32) from fun w => u0 (nI_inj (b := 0) (by omega) (by omega) w)), if_neg u0]
        by_cases u1 : u = 1
        · subst u1
          rw [if_pos (show nI 1 = (1 : Int32) from rfl), if_pos rfl]
          exact fin 31
        · rw [if_neg (show ¬ nI u = (1 : Int32) from fun w => u1 (nI_inj (b := 1) (by omega) (by omega) w)), if_neg u1]
          exact fin 32
    have spec : ∀ R sl S n h x, XR R sl X S T → TyR R S T h x y → T.1 51 0 = nI n → n + kwT tb + 1 ≤ 6032 → lvC T 16384 + lvT X tb + 30 < 16384 → cn (chk X tb 0 0 S).2.2.2 < 6000 → BfR (chk X tb 0 0 S).2.2.2 T3 ∨ ((chk X tb 0 0 S).2.2.2.1 7 0 = 0 ∧ (BfR (ixC (chk X tb 0 0 S).2.2.2 x (chk X tb 0 0 S).1 pl (plT X tb)).2 T8 ∨ (T8 = T3 ∧ (∃ g, TyR R (chk X tb 0 0 S).2.2.2 T3 g (tf (chk X tb 0 0 S).2.2.2 68 x) (bhC T3 y)) ∧ XOk R sl X S T (chk X tb 0 0 S) (kwT tb) (lvT X tb) n y3 T3 ∧ XR R sl X (chk X tb 0 0 S).2.2.2 T3 ∧ ((chk X tb 0 0 S).1 = 0 ↔ y3 = 1) ∧ ixC (chk X tb 0 0 S).2.2.2 x (chk X tb 0 0 S).1 pl (plT X tb) = if (chk X tb 0 0 S).1 = 0 then (tf (chk X tb 0 0 S).2.2.2 68 x, sI (chk X tb 0 0 S).2.2.2 89 0 ((chk X tb 0 0 S).2.2.2.1 89 0 + 1)) else (0, flT (chk X tb 0 0 S).2.2.2 4 (plT X tb))))) := by
      intro R sl S n h x hR hT h51 hn hl hcn
      have qq := q3 R sl S n hR ⟨h51, by omega, by omega, hcn⟩
      have qq' := qq
      unfold XQ XOk at qq
      rcases qq with ⟨a1, a2, ⟨h1, a3⟩, a4, a5, a6, a7, a8⟩ | hBf
      · right
        refine ⟨a1.h0, ?_⟩
        have hT3 := TyR.mo a2 (fun _ _ z => z) _ _ _ hT
        have nr : ¬ isRo (chk X tb 0 0 S).2.2.2 x = 0 := fun w => hT3.ro.mp w c5
        rcases hT3.rd with ⟨e1, e2, e3'⟩ | ⟨e1, e2, e3'⟩ | ⟨e1, e2, e3'⟩ | ⟨p, kd, r, n', b', g, e0, e1, e2, e3', e4, ec, e5, e6, e7, e8, e9, e9', e9'', e10, e11, e12, e13, e14, e15⟩
        · omega
        · omega
        · omega
        · have lv := a1.2.2.2.2.2.1 r n' e10
          rw [e13] at hT8
          have ex67 : tf (chk X tb 0 0 S).2.2.2 67 x = nI r := by unfold tf; rw [e1, nc (by omega)]; exact e9'
          unfold ixC
          rw [if_neg nr, ex67]
          by_cases cl : fb (flw T3) (40 + n') = true
          · right
            have eT : T8 = T3 := by rw [← hT8, if_pos cl, if_neg (by decide)]
            have nl : ¬ isLv (chk X tb 0 0 S).2.2.2 (nI r) = 0 := fun w => by rw [lv.mp w] at cl; exact absurd cl (by decide)
            rw [if_neg nl]
            have k3 : (chk X tb 0 0 S).2.2.2.1 66 p = 3 := by rw [e7, show kd = 3 by omega]; rfl
            have n69 := (a1.2.1.row e2 e3').2.2.2.1 k3
            rw [if_neg n69] at e15
            refine ⟨eT, ⟨g, ?_⟩, qq', a1, a3.y1, rfl⟩
            rw [e14]
            unfold tf
            rw [e1, nc (by omega)]
            exact e15
          · left
            rw [if_pos (lv.mpr (by simpa using cl)), ← hT8, if_neg cl, if_pos rfl]
            exact bf_nt (a := 5) a1.h0 a1.h53 (by decide)
      · exact Or.inl hBf
    by_cases c1' : y3 = 1
    · rw [if_pos (q1'.mpr c1')]
      obtain ⟨T6, g1, g2, g3⟩ := tail 1
      rw [g1]
      rw [if_neg (by decide)] at g2
      have f36 := f8.tr g2
      refine wp_some ⟨⟨bhC T3 y, rfl, f36.2.2.2.1 _ hbh, f3.tr f36⟩, fun R sl S n y' h x hr hy' hR hT h51 hn hl hcn hk => ?_⟩
      have ey : bhC T3 y = y' := nI_inj (by omega) (by omega) hr
      subst ey
      rcases spec R sl S n h x hR hT h51 hn hl hcn with hBf | ⟨h0, hBf | ⟨eT, ⟨g, s1⟩, s2, s3, s4, s5⟩⟩
      · exact Or.inl (hBf.fx f36)
      · exact Or.inr ⟨h0, Or.inl (hBf.fx g2)⟩
      · refine Or.inr ⟨h0, Or.inr ?_⟩
        subst eT
        rw [s5, if_pos (s4.mpr c1')] at hk ⊢
        rcases s2 with ⟨a1, a2, ⟨h1, a3⟩, a4, a5, a6, a7, a8⟩ | hBf
        · have e6 := g3 _ a4 (by omega) (by decide)
          have ctr : CtR (sI (chk X tb 0 0 S).2.2.2 89 0 ((chk X tb 0 0 S).2.2.2.1 89 0 + 1)) (sI T8 52 4 (T8.1 52 4 + 1)) := by
            have := a1.2.2.2.2.2.2.2.2.2.2
            have s3' : ∀ k, k ≠ 4 → (sI T8 52 4 (T8.1 52 4 + 1)).1 52 k = T8.1 52 k := fun k hk => by rw [rdI, if_neg (fun w => hk w.2)]
            unfold CtR at this ⊢
            rw [s3' 2 (by omega), s3' 3 (by omega), s3' 5 (by omega), s3' 6 (by omega), sI_v, sI_v, sI_ne (by omega), sI_ne (by omega), sI_ne (by omega), sI_ne (by omega), this.2.2.1]
            exact ⟨this.1, this.2.1, rfl, this.2.2.2⟩
          obtain ⟨b1, b2, b3, b4, b5⟩ := a1.em (S2 := sI (chk X tb 0 0 S).2.2.2 89 0 ((chk X tb 0 0 S).2.2.2.1 89 0 + 1)) (T5 := sI T8 52 4 (T8.1 52 4 + 1)) (u1 := (if u = 0 then 30 else if u = 1 then 31 else 32)) (u2 := 0) (u3 := nI (wdC (sI T8 52 4 (T8.1 52 4 + 1)) (bhC T8 y))) a4 (by omega) (fun k hk => sI_ne (by omega)) rfl rfl (fun k j hk => by rw [rdI, if_neg (fun w => hk ⟨w.1, by omega⟩)]) hk ctr
          rw [e6]
          have ty6 := TyR.mo b2 (fun _ _ z => z) _ _ _ s1
          refine ⟨b1, a2.tr b2, ⟨g, ty6⟩, em_51, a5.fx b2 b4 b3 a4 (by omega), ⟨_, ⟨g, bhC T8 y, ty6, ?_⟩, em_row⟩, a6, a7, by omega⟩
          rw [s1.wd b2]
          rfl
        · exact absurd s3.h0 hBf.1
    · rw [if_neg (fun w => c1' (q1'.mp w))]
      obtain ⟨T6, g1, g2, g3⟩ := tail 0
      rw [g1]
      rw [if_pos rfl] at g2
      have f86 : FX T8 T6 := (FX.nt f8.2.2.1).tr g2
      have f36 := f8.tr f86
      refine wp_some ⟨⟨bhC T3 y, rfl, f36.2.2.2.1 _ hbh, f3.tr f36⟩, fun R sl S n y' h x hr hy' hR hT h51 hn hl hcn hk => ?_⟩
      rcases spec R sl S n h x hR hT h51 hn hl hcn with hBf | ⟨h0, hBf | ⟨eT, ⟨g, s1⟩, s2, s3, s4, s5⟩⟩
      · exact Or.inl (hBf.fx f36)
      · exact Or.inr ⟨h0, Or.inl (hBf.fx f86)⟩
      · refine Or.inr ⟨h0, Or.inl ?_⟩
        rw [s5, if_neg (fun w => c1' (s4.mp w))]
        subst eT
        exact (bf_nt (a := 4) s3.h0 s3.h53 (by decide)).fx g2
  · rw [if_neg (fun w => c5 (q5.mp w)), c_note (by omega), bis]
    refine wp_some ⟨⟨1, rfl, tyY_1, f3.tr (FX.nt w3)⟩, fun R sl S n y' h x hr hy' hR hT h51 hn hl hcn hk => ?_⟩
    have qq := q3 R sl S n hR ⟨h51, by omega, by omega, hcn⟩
    unfold XQ XOk at qq
    rcases qq with ⟨a1, a2, ⟨h1, a3⟩, a4, a5, a6, a7, a8⟩ | hBf
    · refine Or.inr ⟨a1.h0, Or.inl ?_⟩
      have hT3 := TyR.mo a2 (fun _ _ z => z) _ _ _ hT
      unfold ixC
      rw [if_pos (hT3.ro.mpr c5)]
      exact bf_nt (a := 4) a1.h0 a1.h53 (by decide)
    · exact Or.inl (hBf.fx (FX.nt w3))
end CXY
