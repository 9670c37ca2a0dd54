/-! .f of a pointer -/
/-- what is asked of a place's row and types where nothing is wrong -/
def FdO (R : RgR) (sl : Int32 → Int32) (X : Lx) (S S' T : gSt) (x ty : Int32) (u : Nat) (fi : Int32) (un : Bool) (lv n y : Nat) (T' : gSt) : Prop := XR R sl X S' T' ∧ TyF S S' T T' ∧ (∃ h, TyR R S' T' h ty y) ∧ T'.1 51 0 = nI (n + 1) ∧ (∃ t q c, itR R S' T' x t ∧ t < inn S ∧ (un = true ↔ S.1 12 t = 1) ∧ fi = nI q ∧ q < 8 ∧ wdR R S' T' ty c ∧ cw3 T' n = rwF u un T' t q c) ∧ lvC T' 16384 ≤ lvC T 16384 + lv
/-- the field behind token i -/
abbrev thI (X : Lx) (S : gSt) (x : Int32) (i : Nat) (pl : Int32) : Int32 × Int32 × gSt := thC S 14 x (xN X (i + 1)) pl (nI (xP X (i + 1)))
section CXS
variable {R : RgR} {S S' S1 T T' T1 T2 : gSt} {X : Lx} {nf d i k n m t e w c a b q g f h r s y z : Nat} {x v x' pl : Int32} {sl : Int32 → Int32}
theorem AiO.un (hh : AiO X S T t) : (T.1 28 t = 11 ↔ S.1 12 t = 1) := by
  obtain ⟨c, x, b1, b2, b3, b4, b5, _⟩ := hh
  have : T.1 28 t = nI (xK X x.1) := by
    obtain ⟨i, e, l, rt, dt, n, wt, w, bd⟩ := x
    exact b1.1
  rw [this, b4, show (nI (xK X x.1) = (11 : Int32)) = (xK X x.1 = 11) from ci_eq (j := 11) (by omega) (by omega)]
  rcases b5 with q | q | q <;> rw [q] <;> decide
/-- a field's place and type -/
theorem AiO.fl (hX : XO X) (hh : AiO X S T t) {nm : Int64} : ∃ c np, WP X T t np ∧ S.1 18 t = nI c ∧ c < 220 ∧ S.1 19 t = nI np ∧ np ≤ 8 ∧ ff (isPn X T t nm) 0 np = ff (isFi S c nm) 0 np ∧ ∀ q, q < np → ∃ y, T.1 44 (8 * t + q) = nI y ∧ y < 16387 ∧ TyR R0 S T 5 (S.1 24 (c + q)) y := by
  obtain ⟨c, x, b1, b2, b3, b4, b5, b6, b7, b8, _⟩ := hh
  obtain ⟨i, e, l, rt, dt, n, wt, w, bd⟩ := x
  refine ⟨c, l.length, b2.wp, b6, b7, b8, b2.2.1, b2.find hX, fun q hq => ?_⟩
  obtain ⟨y, y1, y2, y3, _⟩ := b3.1 q hq
  exact ⟨y, y1, y2, y3⟩
theorem CtR.st (hh : CtR S T) (h1 : T'.1 52 = T.1 52) (h2 : ∀ k, 88 ≤ k → k ≤ 92 → S'.1 k 0 = S.1 k 0) : CtR S' T' := by
  unfold CtR at hh ⊢
  rw [h1, h2 92 (by omega) (by omega), h2 88 (by omega) (by omega), h2 89 (by omega) (by omega), h2 90 (by omega) (by omega), h2 91 (by omega) (by omega)]
  exact hh
/-- nulls that are asked for, counted -/
theorem CtR.nl (hh : CtR S T) (hT : TyR R S T f x y) (hp : kdC T y = 3 ∨ kdC T y = 4) : CtR (nuS S x) (if kdC T y = 4 then sI T 52 3 (T.1 52 3 + 1) else T) := by
  have lo := hT.lo
  obtain ⟨p, kd, r, n, b, g, e0, e1, e2, e3, e4, ec, e5, e6, e7, e8, e9, e9', e9'', e10, e11, e12, e13, e14, e15⟩ := (hT.rd).resolve_left (fun w => by omega) |>.resolve_left (fun w => by omega) |>.resolve_left (fun w => by omega)
  have cc : (S.1 66 x.toNatClampNeg = 2) ↔ kdC T y = 4 := ⟨fun w => lo.mp ⟨by rw [e1]; exact nIpos e2 (by omega), w⟩, fun w => (lo.mpr w).2⟩
  have n8 : ∀ k, k ≠ 88 → (nuS S x).1 k 0 = S.1 k 0 := fun k hk => by unfold nuS; rw [sI_ne hk]
  have n88 : (nuS S x).1 88 0 = S.1 88 0 + (if S.1 66 x.toNatClampNeg = 2 then 1 else 0) := by unfold nuS tf; rw [sI_v]
  unfold CtR at hh ⊢
  rw [n8 92 (by omega), n88, n8 89 (by omega), n8 90 (by omega), n8 91 (by omega)]
  by_cases c4 : kdC T y = 4
  · have s3 : ∀ k, k ≠ 3 → (sI T 52 3 (T.1 52 3 + 1)).1 52 k = T.1 52 k := fun k hk => by rw [rdI, if_neg (fun w => hk w.2)]
    rw [if_pos c4, if_pos (cc.mpr c4), s3 2 (by omega), s3 4 (by omega), s3 5 (by omega), s3 6 (by omega), sI_v, hh.2.1]
    exact ⟨hh.1, rfl, hh.2.2⟩
  · rw [if_neg c4, if_neg (fun w => c4 (cc.mp w)), Int32.add_zero]
    exact hh
theorem dm_2 {u v : Int32} : (if u = 0 then ntS T x v else T).2 = T.2 := by
  split
  · exact nt_2
  · rfl
/-- checkField -/
theorem y_fld {u : Nat} (hX : XO X) (hnf : 16385 ≤ nf) (hw : WX X T) (hy : tyY T y) (hz : z < 4008) (h12 : T.1 12 z = nI i) (hi : i + 1 < xn X) (hu : u ≤ 2) (hd : 90 ≤ d) : wp (PP nf d 150 T [nI z, nI y, pl, nI u] []) (fun r _ T' => XA T r T' ∧ ∀ R sl S n y' h x, r = nI y' → y' < 16387 → XR R sl X S T → TyR R S T h x y → T.1 51 0 = nI n → n < 6032 → lvC T 16384 + 30 < 16384 → cn (thI X S x i pl).2.2 < 6000 → Ck (thI X S x i pl).2.2 → BfR (thI X S x i pl).2.2 T' ∨ ((thI X S x i pl).2.2.1 7 0 = 0 ∧ ∃ un : Bool, (un = true ↔ S.1 12 (tf S 69 x).toNatClampNeg = 1) ∧ (BfR (plE u un pl (thI X S x i pl).2.2) T' ∨ FdO R sl X S (plE u un pl (thI X S x i pl).2.2) T x (thI X S x i pl).1 u (thI X S x i pl).2.1 un 6 n y' T'))) := by
  obtain ⟨d, rfl⟩ : ∃ g, d = g + 2 := ⟨d - 2, by omega⟩
  have hxn := hX.1
  have hw0 := hw
  have yl := hy.lt
  obtain ⟨w1, w2, w3, w4, w5, w6, ⟨ti, w7, w7'⟩, w8, w9⟩ := hw
  have zz : inb (nI z) 4008 := nin hz (by omega)
  rw [e_Exprs_checkField _ (d + 1)]
  unfold rb_Exprs_checkField
  rw [c_titleBehind (by omega) (by omega), bis]
  rcases tb_a w2 hy with e | ⟨t, e, t24, tn, hkd⟩
  · rw [e, if_pos rfl, c_note (by omega), bis]
    refine wp_some ⟨⟨1, rfl, tyY_1, FX.nt w2⟩, fun R sl S n y' h x hr hy' hR hT h51 hn hl hc hk => Or.inl ?_⟩
    have td1 : thOk S 14 x = decide (¬ isTd S x = 0) := by unfold thOk; rw [if_neg (by decide)]; simp
    rcases hT.td hR.2.2.2.1 with ⟨q1, q2⟩ | ⟨q1, p, t, g, r, n', W, e1, e2, e3, e4, e5, e6, e7, _⟩
    · unfold thI thC
      rw [td1, if_neg (by simp [q1])]
      exact bf_nt (a := 4) hR.1.2.2.2.2.1 hR.1.2.2.2.2.2.1 (by decide)
    · rw [e] at e7
      exact absurd e7.symm (nI_m1 (by omega))
  · have zt : inb (nI t) 24 := nin t24 (by omega)
    have ct : (nI t).toNatClampNeg = t := nc (by omega)
    have rl : rkC T y < 16 := Nat.mod_lt _ (by omega)
    rw [e, if_neg (nI_m1 (by omega)), c_regionOf (by omega) (by omega), bis, c_live rl (by omega), bis, c_dem (by omega), bis]
    generalize hT1 : (if (if fb (flw T) (40 + rkC T y) = true then (1 : Int32) else 0) = 0 then ntS T 5 pl else T) = T1
    have f1 : FX T T1 := by rw [← hT1]; exact FX.dm w2
    have t12 : T1.2 = T.2 := by
      rw [← hT1]
      exact dm_2
    have x1 := hw0.fx f1
    obtain ⟨np, p1, p2, p3, p4, p5⟩ := x1.2.2.2.2.2.2.2.2 t (by unfold itN at tn ⊢; rw [f1.o (by omega)]; exact tn)
    have p8 := p1.2.1
    rw [gd, if_pos zz, nc (by omega), f1.o (k := 12) (by omega), h12, nI_1, c_name hX (w1.fx f1) hi, bis, c_findPart (nf := nf) (d := d + 1) hX (by omega) (w1.fx f1) t24 p1 (by omega), bis]
    -- what the spec says up to here
    have spec : ∀ R sl S h x, XR R sl X S T → TyR R S T h x y → BfR (thI X S x i pl).2.2 T1 ∨ (T1 = T ∧ ∃ p c W g, x = nI p ∧ 1 ≤ p ∧ p < cn S ∧ p < 6000 ∧ S.1 69 p = nI t ∧ t < inn S ∧ S.1 70 p = nI W ∧ DgR R W g ∧ rbC T y = g ∧ g < 4096 ∧ S.1 18 t = nI c ∧ c < 220 ∧ AiO X S T t ∧ ff (isPn X T t (xN X (i + 1))) 0 np = ff (isFi S c (xN X (i + 1))) 0 np ∧ (∀ q, q < np → ∃ y, T.1 44 (8 * t + q) = nI y ∧ y < 16387 ∧ TyR R0 S T 5 (S.1 24 (c + q)) y) ∧ thI X S x i pl = if 0 ≤ ff (isFi S c (xN X (i + 1))) 0 np then ((chT 7 (tgS (nuS S x) (nI t)) (fty S (nI t) (ff (isFi S c (xN X (i + 1))) 0 np)) (nI W)).1, ff (isFi S c (xN X (i + 1))) 0 np, (chT 7 (tgS (nuS S x) (nI t)) (fty S (nI t) (ff (isFi S c (xN X (i + 1))) 0 np)) (nI W)).2) else (0, 0, flT (nuS S x) 3 (nI (xP X (i + 1))))) := by
      intro R sl S h x hR hT
      have td1 : thOk S 14 x = decide (¬ isTd S x = 0) := by unfold thOk; rw [if_neg (by decide)]; simp
      rcases hT.td hR.2.2.2.1 with ⟨q1, q2⟩ | ⟨q1, p, t', g, r, n', W, e1, e2, e3, e4, e5, e6, e7, e8, e9, e10, e11, e12, e13, e14⟩
      · rw [e] at q2
        exact absurd q2 (nI_m1 (by omega))
      · rw [e] at e7
        have et : t = t' := nI_inj (by omega) (by omega) e7
        subst et
        have lv := hR.2.2.2.2.2.1 r n' e13
        rw [e14] at hT1
        have ex69 : tf S 69 x = nI t := by unfold tf; rw [e1, nc (by omega)]; exact e5
        have ex70 : tf S 70 x = nI W := by unfold tf; rw [e1, nc (by omega)]; exact e10
        have ex67 : tf S 67 x = nI r := by unfold tf; rw [e1, nc (by omega)]; exact e12
        have h0 := hR.1.2.2.2.2.1
        have h53 := hR.1.2.2.2.2.2.1
        have ti : t < inn S := by
          obtain ⟨m, m1, m2, m3, _⟩ := hR.1.2.2.1
          unfold itN at tn
          rw [m2, nc (by omega)] at tn
          omega
        unfold thI thC
        rw [td1, if_pos (by simp [q1]), ex67, ex69, ex70]
        by_cases cl : fb (flw T) (40 + n') = true
        · right
          have eT : T1 = T := by rw [← hT1, if_pos cl, if_neg (by decide)]
          have ai := hR.2.2.2.2.2.2.2.2.1 t ti
          obtain ⟨c, np', g1, g2, g3, g4, g5, g6, g7⟩ := ai.fl (nm := xN X (i + 1)) hX
          have enp : np' = np := nI_inj (by omega) (by omega) (by rw [← g1.1, ← p1.1, eT])
          subst enp
          refine ⟨eT, p, c, W, g, e1, e2, e3, e4, e5, ti, e10, e11, e8, e9, g2, g3, ai, g6, g7, ?_⟩
          rw [if_neg (fun w => by rw [lv.mp w] at cl; exact absurd cl (by decide)), if_neg (by decide)]
          have fn : fnF S (nI t) (xN X (i + 1)) = ff (isFi S c (xN X (i + 1))) 0 np' := by
            unfold fnF
            rw [ct, g2, g4, nc (by omega), nc (by omega)]
          rw [fn]
          by_cases c0 : 0 ≤ ff (isFi S c (xN X (i + 1))) 0 np'
          · rw [if_pos c0, if_pos c0, if_neg (by decide)]
          · rw [if_neg c0, if_neg c0]
        · left
          rw [if_pos (lv.mpr (by simpa using cl)), ← hT1, if_neg cl, if_pos rfl]
          exact bf_nt (a := 5) h0 h53 (by decide)
    rcases ff_val (p := isPn X T1 t (xN X (i + 1))) (i := 0) (k := np) with v | ⟨q, _, q1, _, v⟩
    · rw [v, if_pos rfl, gd, if_pos zz, f1.o (k := 12) (by omega), h12, nI_1, c_start hX (w1.fx f1) (by omega), bis, c_note (by omega), bis]
      refine wp_some ⟨⟨1, rfl, tyY_1, f1.tr (FX.nt f1.2.2.1)⟩, fun R sl S n y' h x hr hy' hR hT h51 hn hl hc hk => Or.inl ?_⟩
      rcases spec R sl S h x hR hT with hB | ⟨eT, p, c, W, g, e1, e2, e3, e4, e5, e6, e7, e8, e9, e10, e11, e12, ai, e13, e14, e15⟩
      · exact hB.fx (FX.nt f1.2.2.1)
      · rw [eT, e13] at v
        rw [e15, v, if_neg (by decide), eT]
        exact bf_nt (a := 3) (by unfold nuS; rw [sI_ne (by omega)]; exact hR.1.2.2.2.2.1) hR.1.2.2.2.2.2.1 (by decide)
    · have q8 : q < 8 := by omega
      obtain ⟨yf, y1, y2⟩ := p2 q (by omega)
      have yfl := y2.lt
      rw [v, if_neg (nI_m1 (by omega)), c_null (by omega) (by omega), bis]
      generalize hT3 : (if kdC T1 y = 4 then sI T1 52 3 (T1.1 52 3 + 1) else T1) = T3
      have f3 : FX T1 T3 := by rw [← hT3]; exact FX.nl f1.2.2.1
      have f13 := f1.tr f3
      have t32 : T3.2 = T1.2 := by
        rw [← hT3]
        split <;> rfl
      have gl : rbC T3 y < 4096 := Nat.mod_lt _ (by omega)
      obtain ⟨yt, T4, k1, k2, k3⟩ := k_told (nf := nf) (g := rbC T3 y) hnf gl 6 1 yf (d + 1) T3 f3.2.2.1 (by omega) (by omega) (f3.2.2.2.1 _ y2) (by omega)
      have f14 := f13.tr k3.fx
      have ytl := k2.lt
      rw [c_typeOf (nf := nf) (d := d + 1) t24 q8 (by omega), bis, f3.o (k := 44) (by omega), y1, c_regionsBehind (by omega) (by omega), bis, show PP nf (d + 1) 98 T3 [nI yf, nI (rbC T3 y), (1 : Int32)] [] = _ from k1, bis, gd, if_pos zt, ct]
      have o28 : T4.1 28 t = T.1 28 t := by rw [f14.o (by omega)]
      -- the spec behind told
      have fin : ∀ R sl S h x n, XR R sl X S T → TyR R S T h x y → T.1 51 0 = nI n → n < 6032 → lvC T 16384 + 30 < 16384 → cn (thI X S x i pl).2.2 < 6000 → BfR (thI X S x i pl).2.2 T1 ∨ (T1 = T ∧ (thI X S x i pl).2.1 = nI q ∧ itR R (thI X S x i pl).2.2 T4 x t ∧ t < inn S ∧ (tf S 69 x).toNatClampNeg = t ∧ (T.1 28 t = 11 ↔ S.1 12 t = 1) ∧ TyF S (thI X S x i pl).2.2 T T4 ∧ TyR R (thI X S x i pl).2.2 T4 5 (thI X S x i pl).1 yt ∧ lvC T4 16384 ≤ lvC T 16384 + 6 ∧ (thI X S x i pl).2.2.1 7 0 = 0 ∧ T4.1 53 0 = 0 ∧ T4.1 51 0 = nI n ∧ (T4.1 52 2 = S.1 92 0 ∧ T4.1 52 3 = (thI X S x i pl).2.2.1 88 0 ∧ T4.1 52 4 = S.1 89 0 ∧ T4.1 52 5 = S.1 90 0 ∧ T4.1 52 6 = S.1 91 0) ∧ (thI X S x i pl).2.2.1 90 0 = S.1 90 0 + (if S.1 12 t = 1 then 1 else 0) ∧ ∀ k, k = 89 ∨ k = 91 ∨ k = 92 → (thI X S x i pl).2.2.1 k 0 = S.1 k 0) := by
        intro R sl S h x n hR hT h51 hn hl hc
        rcases spec R sl S h x hR hT with hB | ⟨eT, p, c, W, g, e1, e2, e3, e4, e5, e6, e7, e8, e9, e10, e11, e12, ai, e13, e14, e15⟩
        · exact Or.inl hB
        · right
          subst eT
          rw [e13] at v
          have c0 : (0 : Int32) ≤ nI q := nI0le (by omega)
          rw [e15, v, if_pos c0] at hc ⊢
          obtain ⟨yf', z1, z2, z3⟩ := e14 q (by omega)
          have eyf : yf' = yf := nI_inj (by omega) (by omega) (by rw [← z1, ← y1])
          subst eyf
          have efty : fty S (nI t) (nI q) = S.1 24 (c + q) := by
            unfold fty
            rw [ct, e11, show nI c + nI q = nI (c + q) from (Int32.ofNat_add _ _).symm, nc (by omega)]
          rw [efty] at hc ⊢
          have F3 : TyF S (tgS (nuS S x) (nI t)) T1 T3 := TyF.st (by unfold tgS nuS; rw [sI_ne (by omega), sI_ne (by omega)]) (fun k _ _ => by unfold tgS nuS; rw [sI_ne (by omega), sI_ne (by omega)]) (by unfold tgS nuS; rw [sI_ne (by omega), sI_ne (by omega)]) (by rw [t32]) (by rw [t32])
          have lv3 : lvC T3 16384 = lvC T1 16384 := lvC_62 (by rw [t32]) (by rw [t32]) _
          have eg : rbC T3 y = g := by
            rw [← e9]
            unfold rbC bhC kO SW
            rw [t32]
          rw [eg] at k1
          have tg1 : Tg (tgS (nuS S x) (nI t)) := (FE.nu.tr FE.tg2).tg hR.2.1.1
          obtain ⟨yt', T4', m1, m2, m3, m4⟩ := told_ok (nf := nf) (W := W) (g := g) hnf hR.2.2.2.1 e8 5 (tgS (nuS S x) (nI t)) T3 (S.1 24 (c + q)) yf' 1 7 (d + 1) (TyR.mo F3 (fun _ _ z => z) _ _ _ z3) (by omega) (by omega) (by omega) tg1 f3.2.2.1.1 (by omega) hc (by omega)
          rw [k1] at m1
          simp only [Option.some.injEq, Prod.mk.injEq, true_and] at m1
          obtain ⟨m1a, rfl⟩ := m1
          have eyt : yt = yt' := nI_inj (by omega) (by have := m2.lt; omega) m1a
          subst eyt
          have F := F3.tr m3
          have e41 : T4.1 = T3.1 := k3.1
          have o3 : ∀ k j, k ≠ 52 → T4.1 k j = T1.1 k j := fun k j hk => by
            rw [e41, ← hT3]
            split
            · rw [sI_ne hk]
            · rfl
          have ct := (hR.2.2.2.2.2.2.2.2.2.2).nl hT hkd
          rw [hT3] at ct
          unfold CtR at ct
          have o5 : ∀ k, k < 65 ∨ 70 < k → (chT 7 (tgS (nuS S x) (nI t)) (S.1 24 (c + q)) (nI W)).2.1 k = (tgS (nuS S x) (nI t)).1 k := fun k hk => chT_o hk 7 _ _
          have n8 : ∀ k, k ≠ 88 → (nuS S x).1 k 0 = S.1 k 0 := fun k hk => by unfold nuS; rw [sI_ne hk]
          refine ⟨rfl, rfl, ?_, e6, by unfold tf; rw [e1, nc (by omega), e5, nc (by omega)], ai.un, F, m2, by have := m4.2.2.2; omega, ?_, ?_, ?_, ?_, ?_, ?_⟩
          · exact itR.mo (T := T1) (S := S) ⟨h, y, hT, by rw [e1]; exact nIpos e2 (by omega), by rw [e1, nc (by omega)]; exact e5, t24⟩ F
          · rw [o5 7 (by omega)]
            unfold tgS nuS
            rw [sI_ne (by omega), sI_ne (by omega)]
            exact hR.1.2.2.2.2.1
          · rw [o3 53 0 (by omega)]; exact hR.1.2.2.2.2.2.1
          · rw [o3 51 0 (by omega)]; exact h51
          · rw [e41, o5 88 (by omega)]
            unfold tgS
            rw [sI_ne (by omega)]
            refine ⟨by rw [ct.1, n8 92 (by omega)], ct.2.1, by rw [ct.2.2.1, n8 89 (by omega)], by rw [ct.2.2.2.1, n8 90 (by omega)], by rw [ct.2.2.2.2, n8 91 (by omega)]⟩
          · rw [o5 90 (by omega)]
            unfold tgS
            rw [sI_v, n8 90 (by omega), ‹(nI t).toNatClampNeg = t›]
            unfold nuS
            rw [sI_ne (by omega)]
          · intro k hk
            rw [o5 k (by omega)]
            unfold tgS
            rw [sI_ne (by omega), n8 k (by omega)]
      have x4 := hw0.fx f14
      have p4 := x4.2.2.2.2.2.1
      -- the row is laid
      have close : ∀ (R : RgR) (sl : Int32 → Int32) (S S2 T5 : gSt) (h : Nat) (x : Int32) (n : Nat) (un : Bool) (a b : Int32), XR R sl X S T → n < 6032 → itR R (thI X S x i pl).2.2 T4 x t → t < inn S → TyF S (thI X S x i pl).2.2 T T4 → TyR R (thI X S x i pl).2.2 T4 5 (thI X S x i pl).1 yt → lvC T4 16384 ≤ lvC T 16384 + 6 → T4.1 53 0 = 0 → T4.1 51 0 = nI n → (un = true ↔ S.1 12 t = 1) → Ck S2 → S2.1 7 0 = 0 → FE (thI X S x i pl).2.2 S2 → (∀ k, k ≠ 90 → S2.1 k = (thI X S x i pl).2.2.1 k) → T5.2 = T4.2 → (∀ k j, k ≠ 52 → T5.1 k j = T4.1 k j) → FX T T5 → CtR S2 T5 → (∀ c, (a, b, c) = rwF u un T5 t q c) → FdO R sl X S S2 T x (thI X S x i pl).1 u (nI q) un 6 n yt (emS T5 n a b (nI (wdC T5 yt))) := by
        intro R sl S S2 T5 h x n un a b hR hn hit htn hF hty hlv h53 h51 hun hck h0 hfe ho t52 o5 fx5 hct hrow
        have F5 : TyF (thI X S x i pl).2.2 S2 T4 (emS T5 n a b (nI (wdC T5 yt))) := TyF.st (by rw [ho 65 (by omega)]) (fun k _ _ => ho k (by omega)) (ho 15 (by omega)) (show T5.2 62 = _ by rw [t52]) (show T5.2 63 0 = _ by rw [t52])
        have F6 := hF.tr F5
        have h515 : T5.1 51 0 = nI n := by rw [o5 51 0 (by omega)]; exact h51
        have fx6 : FX T (emS T5 n a b (nI (wdC T5 yt))) := fx5.tr (FX.em fx5.2.2.1 h515 hn)
        have fe6 : FE S S2 := FE.th.tr hfe
        have ty6 := TyR.mo F5 (fun _ _ z => z) _ _ _ hty
        refine ⟨hR.fx F6 fe6 fx6 h0 (by rw [em_o (by omega), o5 53 0 (by omega)]; exact h53) hck (hct.st (em_o (by omega)) (fun _ _ _ => rfl)), F6, ⟨5, ty6⟩, em_51, ⟨t, q, nI (wdC T5 yt), hit.mo F5, htn, hun, rfl, q8, ⟨5, yt, ty6, ?_⟩, ?_⟩, ?_⟩
        · rw [hty.wd F5]
          congr 1
          have : TyF (thI X S x i pl).2.2 (thI X S x i pl).2.2 T4 T5 := TyF.st rfl (fun _ _ _ => rfl) rfl (by rw [t52]) (by rw [t52])
          exact hty.wd this
        · rw [em_row, hrow]
          unfold rwF
          rw [em_o (by omega)]
        · rw [lvC_62 (T := T4) (T' := emS T5 n a b (nI (wdC T5 yt))) (show T5.2 62 = _ by rw [t52]) (show T5.2 63 = _ by rw [t52])]
          exact hlv
      by_cases cu : T4.1 28 t = 11
      · rw [if_pos cu]
        rw [o28] at cu
        by_cases c1 : u = 1
        · subst c1
          rw [if_pos (show nI 1 = (1 : Int32) from rfl), c_dem (by omega), bis, if_pos rfl, if_neg (show ¬ nI 1 = (0 : Int32) by decide)]
          obtain ⟨T6, r1, r2, r3⟩ := a_190 (nf := nf) (d := d + 1) (T := ntS T4 4 pl) (u := 1) (y := yt) (q := q) (by omega) ytl q8 (FX.nt (x := 4) (y := pl) k3.2.2.1).2.2.1 (by rw [nt_o (by omega) (by omega)]; exact p4) (by omega)
          rw [r1]
          have f46 : FX T4 T6 := (FX.nt k3.2.2.1).tr r2
          refine wp_some ⟨⟨yt, rfl, f46.2.2.2.1 _ k2, f14.tr f46⟩, fun R sl S n y' h x hr hy' hR hT h51 hn hl hc hk => ?_⟩
          rcases fin R sl S h x n hR hT h51 hn hl hc with hB | ⟨eT, g1, g2, g3, g4, g5, g6, g7, g8, g9, g10, g11, g12, g13, g14⟩
          · exact Or.inl (hB.fx ((f3.tr k3.fx).tr f46))
          · refine Or.inr ⟨g9, true, ⟨fun _ => by rw [g4]; exact g5.mp cu, fun _ => rfl⟩, Or.inl ?_⟩
            unfold plE
            rw [if_pos rfl, if_pos rfl]
            exact (bf_nt (a := 4) g9 g10 (by decide)).fx r2
        · rw [if_neg (show ¬ nI u = (1 : Int32) from fun w => c1 (nI_inj (b := 1) (by omega) (by omega) w)), c_dem (by omega), bis, if_neg (show ¬ (1 : Int32) = 0 by decide)]
          by_cases c0 : u = 0
          · subst c0
            rw [if_pos (show nI 0 = (0 : Int32) from rfl), show (5 : Int32) = nI 5 from rfl, c_tally (by omega) (by omega), bis]
            have f45 : FX T4 (sI T4 52 5 (T4.1 52 5 + 1)) := FX.ta k3.2.2.1 (by omega)
            obtain ⟨T6, r1, r2, r3⟩ := a_190 (nf := nf) (d := d + 1) (T := sI T4 52 5 (T4.1 52 5 + 1)) (u := 0) (y := yt) (q := q) (by omega) ytl q8 f45.2.2.1 (by rw [sI_ne (by omega)]; exact p4) (by omega)
            rw [r1]
            refine wp_some ⟨⟨yt, rfl, (f45.tr r2).2.2.2.1 _ k2, (f14.tr f45).tr r2⟩, fun R sl S n y' h x hr hy' hR hT h51 hn hl hc hk => ?_⟩
            have ey : yt = y' := nI_inj (by omega) (by omega) hr
            subst ey
            rcases fin R sl S h x n hR hT h51 hn hl hc with hB | ⟨eT, g1, g2, g3, g4, g5, g6, g7, g8, g9, g10, g11, g12, g13, g14⟩
            · exact Or.inl (hB.fx (((f3.tr k3.fx).tr f45).tr r2))
            · refine Or.inr ⟨g9, true, ⟨fun _ => by rw [g4]; exact g5.mp cu, fun _ => rfl⟩, Or.inr ?_⟩
              have e6 := r3 n (by rw [sI_ne (by omega)]; exact g11) hn
              rw [e6, g1]
              refine close R sl S (plE 0 true pl (thI X S x i pl).2.2) _ h x n true _ _ hR hn g2 g3 g6 g7 g8 g10 g11 ⟨fun _ => g5.mp cu, fun _ => rfl⟩ hk g9 FE.rf (fun _ _ => rfl) rfl (fun k j hk => by rw [sI_ne hk]) (f14.tr f45) ?_ (fun c => rfl)
              show CtR (thI X S x i pl).2.2 _
              unfold CtR
              rw [rdI, if_neg (by omega), rdI, if_neg (by omega), rdI, if_neg (by omega), sI_v, rdI, if_neg (by omega), g14 92 (by omega), g14 89 (by omega), g14 91 (by omega), g13, if_pos (g5.mp cu), g12.2.2.2.1]
              exact ⟨g12.1, g12.2.1, g12.2.2.1, rfl, g12.2.2.2.2⟩
          · have u2 : u = 2 := by omega
            subst u2
            rw [if_neg (show ¬ nI 2 = (0 : Int32) by decide)]
            obtain ⟨T6, r1, r2, r3⟩ := a_190 (nf := nf) (d := d + 1) (T := T4) (u := 2) (y := yt) (q := q) (by omega) ytl q8 k3.2.2.1 p4 (by omega)
            rw [r1]
            refine wp_some ⟨⟨yt, rfl, r2.2.2.2.1 _ k2, f14.tr r2⟩, fun R sl S n y' h x hr hy' hR hT h51 hn hl hc hk => ?_⟩
            have ey : yt = y' := nI_inj (by omega) (by omega) hr
            subst ey
            rcases fin R sl S h x n hR hT h51 hn hl hc with hB | ⟨eT, g1, g2, g3, g4, g5, g6, g7, g8, g9, g10, g11, g12, g13, g14⟩
            · exact Or.inl (hB.fx ((f3.tr k3.fx).tr r2))
            · refine Or.inr ⟨g9, true, ⟨fun _ => by rw [g4]; exact g5.mp cu, fun _ => rfl⟩, Or.inr ?_⟩
              have e6 := r3 n g11 hn
              rw [e6, g1]
              have ep : plE 2 true pl (thI X S x i pl).2.2 = sI (thI X S x i pl).2.2 90 0 ((thI X S x i pl).2.2.1 90 0 - 1) := by
                unfold plE
                rw [if_pos rfl, if_neg (by decide), if_pos rfl]
              rw [ep]
              refine close R sl S _ T4 h x n true _ _ hR hn g2 g3 g6 g7 g8 g10 g11 ⟨fun _ => g5.mp cu, fun _ => rfl⟩ (hk.wr (by omega) hc) (by rw [sI_ne (by omega)]; exact g9) (FE.wr (by omega)) (fun k hk => sI_ne hk) rfl (fun _ _ _ => rfl) f14 ?_ (fun c => rfl)
              unfold CtR
              rw [sI_ne (by omega), sI_ne (by omega), sI_ne (by omega), sI_v, sI_ne (by omega), g14 92 (by omega), g14 89 (by omega), g14 91 (by omega), g13, if_pos (g5.mp cu), Int32.add_sub_cancel]
              exact g12
      · rw [if_neg cu]
        rw [o28] at cu
        rw [c_placeOf (nf := nf) (d := d + 1) t24 q8 (by omega), bis]
        obtain ⟨T6, r1, r2, r3⟩ := a_emp (nf := nf) (d := d + 1) (T := T4) (off := T4.1 45 (8 * t + q)) hu ytl k3.2.2.1 p4 (by omega)
        rw [r1, bis]
        refine wp_some ⟨⟨yt, rfl, r2.2.2.2.1 _ k2, f14.tr r2⟩, fun R sl S n y' h x hr hy' hR hT h51 hn hl hc hk => ?_⟩
        have ey : yt = y' := nI_inj (by omega) (by omega) hr
        subst ey
        rcases fin R sl S h x n hR hT h51 hn hl hc with hB | ⟨eT, g1, g2, g3, g4, g5, g6, g7, g8, g9, g10, g11, g12, g13, g14⟩
        · exact Or.inl (hB.fx ((f3.tr k3.fx).tr r2))
        · have nu : ¬ S.1 12 t = 1 := fun w => cu (g5.mpr w)
          refine Or.inr ⟨g9, false, ⟨fun w => absurd w (by decide), fun w => by rw [g4] at w; exact absurd w nu⟩, Or.inr ?_⟩
          have e6 := r3 n g11 hn
          rw [e6, g1]
          refine close R sl S (plE u false pl (thI X S x i pl).2.2) T4 h x n false _ _ hR hn g2 g3 g6 g7 g8 g10 g11 ⟨fun w => absurd w (by decide), fun w => absurd w nu⟩ hk g9 FE.rf (fun _ _ => rfl) rfl (fun _ _ _ => rfl) f14 ?_ (fun c => rfl)
          show CtR (thI X S x i pl).2.2 _
          unfold CtR
          rw [g14 92 (by omega), g14 89 (by omega), g14 91 (by omega), g13, if_neg nu, Int32.add_zero]
          exact g12
end CXS
