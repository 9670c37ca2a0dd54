/-! is -/
def IsO (R : RgR) (sl : Int32 → Int32) (X : Lx) (S S' T : gSt) (ty op fi : Int32) (n : Nat) (T' : gSt) : Prop := XR R sl X S' T' ∧ TyF S S' T T' ∧ ty = 0 ∧ T'.1 51 0 = nI (n + 1) ∧ cw3 T' n = (op, fi, 0) ∧ lvC T' 16384 ≤ lvC T 16384
section CXU
variable {R : RgR} {S S' S1 S2 T T' T1 T2 T5 : gSt} {X : Lx} {nf d i k n m t e w c a b q g f h r s y z : Nat} {x v x' pl u1 u2 u3 : Int32} {sl : Int32 → Int32}
/-- checkIs -/
theorem y_is (hX : XO X) (hnf : 16385 ≤ nf) (hw : WX X T) (hy : tyY T y) (hz : z < 4008) (h12 : T.1 12 z = nI i) (hi : i + 1 < xn X) (hd : 90 ≤ d) : wp (PP nf d 155 T [nI z, nI y, pl] []) (fun r _ T' => (r = 1 ∧ FX T T') ∧ ∀ R sl S n h x, XR R sl X S T → TyR R S T h x y → T.1 51 0 = nI n → n < 6032 → Ck (thC S 17 x (xN X (i + 1)) pl (nI (xP X (i + 1)))).2.2 → BfR (thC S 17 x (xN X (i + 1)) pl (nI (xP X (i + 1)))).2.2 T' ∨ IsO R sl X S (thC S 17 x (xN X (i + 1)) pl (nI (xP X (i + 1)))).2.2 T (thC S 17 x (xN X (i + 1)) pl (nI (xP X (i + 1)))).1 22 ((thC S 17 x (xN X (i + 1)) pl (nI (xP X (i + 1)))).2.1 + 1) n T') := by
  obtain ⟨d, rfl⟩ : ∃ g, d = g + 2 := ⟨d - 2, by omega⟩
  have hxn := hX.1
  have hw0 := hw
  have yl := hy.lt
  obtain ⟨w1, w2, w3, w4, w5, w6, ⟨ti, w7, w7'⟩, w8, w9⟩ := hw
  have zz : inb (nI z) 4008 := nin hz (by omega)
  rw [e_Exprs_checkIs _ (d + 1)]
  unfold rb_Exprs_checkIs
  have bad : ∀ (ρ : RgR) (σ : Int32 → Int32) (S : gSt) (x : Int32), XR ρ σ X S T → thOk S 17 x = false → BfR (thC S 17 x (xN X (i + 1)) pl (nI (xP X (i + 1)))).2.2 (ntS T 4 pl) := fun ρ σ S x hR ht => by
    unfold thC
    rw [ht, if_neg (by decide)]
    exact bf_nt (a := 4) hR.1.2.2.2.2.1 hR.1.2.2.2.2.2.1 (by decide)
  have ok17 : ∀ (S : gSt) (x : Int32), thOk S 17 x = decide (¬ isTd S x = 0 ∧ S.1 12 (tf S 69 x).toNatClampNeg = 1) := fun S x => by unfold thOk; rw [if_neg (by decide)]; simp
  rw [c_titleBehind (by omega) (by omega), bis]
  rcases tb_a w2 hy with e | ⟨t, e, t24, tn, hkd⟩
  · rw [e, if_pos rfl, c_note (by omega), bis]
    refine wp_some ⟨⟨rfl, FX.nt w2⟩, fun R sl S n h x hR hT h51 hn hk => Or.inl (bad R sl S x hR ?_)⟩
    rw [ok17]
    rcases hT.td hR.2.2.2.1 with ⟨q1, q2⟩ | ⟨q1, p, t, g, r, n', W, e1, e2, e3, e4, e5, e6, e7, _⟩
    · simp only [decide_eq_false_iff_not]
      exact fun w => w.1 q1
    · rw [e] at e7
      exact absurd e7.symm (nI_m1 (by omega))
  · have zt : inb (nI t) 24 := nin t24 (by omega)
    have ct : (nI t).toNatClampNeg = t := nc (by omega)
    rw [e, if_neg (nI_m1 (by omega)), gd, if_pos zt, ct]
    -- the item on both sides
    have both : ∀ (ρ : RgR) (σ : Int32 → Int32) (S : gSt) (x : Int32) (h : Nat), XR ρ σ X S T → TyR ρ S T h x y → ∃ p r n', ¬ isTd S x = 0 ∧ x = nI p ∧ 1 ≤ p ∧ p < 6000 ∧ tf S 69 x = nI t ∧ tf S 67 x = nI r ∧ ρ r n' ∧ rkC T y = n' ∧ t < inn S := fun ρ σ S x h hR hT => by
      rcases hT.td hR.2.2.2.1 with ⟨q1, q2⟩ | ⟨q1, p, t', g, r, n', W, e1, e2, e3, e4, e5, e6, e7, e8, e9, e10, e11, e12, e13, e14⟩
      · rw [e] at q2
        exact absurd q2 (nI_m1 (by omega))
      · rw [e] at e7
        have et : t = t' := nI_inj (by omega) (by omega) e7
        subst et
        have ti : t < inn S := by
          obtain ⟨m, m1, m2, m3, _⟩ := hR.1.2.2.1
          unfold itN at tn
          rw [m2, nc (by omega)] at tn
          omega
        exact ⟨p, r, n', q1, e1, e2, e4, by unfold tf; rw [e1, nc (by omega)]; exact e5, by unfold tf; rw [e1, nc (by omega)]; exact e12, e13, e14, ti⟩
    by_cases cu : T.1 28 t = 11
    · rw [if_pos cu]
      have rl : rkC T y < 16 := Nat.mod_lt _ (by omega)
      rw [c_regionOf (by omega) (by omega), bis, c_live rl (by omega), bis, c_dem (by omega), bis]
      generalize hT1 : (if (if fb (flw T) (40 + rkC T y) = true then (1 : Int32) else 0) = 0 then ntS T 5 pl else T) = T1
      have f1 : FX T T1 := by rw [← hT1]; exact FX.dm w2
      have x1 := hw0.fx f1
      obtain ⟨np, p1, p2, p3, p4, p5⟩ := x1.2.2.2.2.2.2.2.2 t (by unfold itN at tn ⊢; rw [f1.o (by omega)]; exact tn)
      have p8 := p1.2.1
      rw [gd, if_pos zz, nc (by omega), f1.o (k := 12) (by omega), h12, nI_1, c_name hX (w1.fx f1) hi, bis, c_findPart (nf := nf) (d := d + 1) hX (by omega) (w1.fx f1) t24 p1 (by omega), bis]
      have tail : ∀ (v y0 : Int32), ∃ T6, rj_Exprs_checkIs_104 (PP nf (d + 1)) nf T1 (nI z) (nI y) v y0 = some (1, 0, T6) ∧ FX (if y0 = 0 then ntS T1 3 (nI (xP X (i + 1))) else T1) T6 ∧ ∀ n, T1.1 51 0 = nI n → n < 6032 → ¬ y0 = 0 → T6 = emS (if kdC T1 y = 4 then sI T1 52 3 (T1.1 52 3 + 1) else T1) n 22 (v + 1) 0 := by
        intro v y0
        unfold rj_Exprs_checkIs_104
        rw [gd, if_pos zz, nc (by omega), f1.o (k := 12) (by omega), h12, nI_1, c_start hX (w1.fx f1) (by omega), bis, c_dem (by omega), bis]
        generalize hT2 : (if y0 = 0 then ntS T1 3 (nI (xP X (i + 1))) else T1) = T2
        have f2 : FX T1 T2 := by rw [← hT2]; exact FX.dm f1.2.2.1
        rw [c_null (by omega) (by omega), bis]
        have f3 : FX T2 (if kdC T2 y = 4 then sI T2 52 3 (T2.1 52 3 + 1) else T2) := FX.nl f2.2.2.1
        obtain ⟨r, T6, m1, m2, m3⟩ := a_emit (nf := nf) (d := d + 1) (T := (if kdC T2 y = 4 then sI T2 52 3 (T2.1 52 3 + 1) else T2)) (x := 22) (y := v + 1) (z := 0) f3.2.2.1 ((x1.fx (f2.tr f3)).2.2.2.2.2.1) (by omega)
        rw [m1, bis]
        refine ⟨T6, rfl, f3.tr m2, fun n hn hn2 h0 => ?_⟩
        have eT : T2 = T1 := by rw [← hT2, if_neg h0]
        rw [eT] at m3
        exact m3 n (by rw [(nl_52 (T := T1) (y := y)).2 51 0 (by omega)]; exact hn) hn2
      have spec : ∀ R sl S h x, XR R sl X S T → TyR R S T h x y → BfR (thC S 17 x (xN X (i + 1)) pl (nI (xP X (i + 1)))).2.2 T1 ∨ (T1 = T ∧ thC S 17 x (xN X (i + 1)) pl (nI (xP X (i + 1))) = if 0 ≤ ff (isPn X T t (xN X (i + 1))) 0 np then (0, ff (isPn X T t (xN X (i + 1))) 0 np, nuS S x) else (0, 0, flT (nuS S x) 3 (nI (xP X (i + 1))))) := by
        intro R sl S h x hR hT
        obtain ⟨p, r, n', b1, b2, b3, b4, b5, b6, b7, b8, b9⟩ := both R sl S x h hR hT
        have ai := hR.2.2.2.2.2.2.2.2.1 t b9
        have tok : thOk S 17 x = true := by
          rw [ok17, b5, ct]
          simp only [decide_eq_true_eq]
          exact ⟨b1, ai.un.mp cu⟩
        have lv := hR.2.2.2.2.2.1 r n' b7
        rw [b8] at hT1
        unfold thC
        rw [tok, if_pos rfl, b6, b5]
        by_cases cl : fb (flw T) (40 + n') = true
        · right
          have eT : T1 = T := by rw [← hT1, if_pos cl, if_neg (by decide)]
          obtain ⟨c, np', g1, g2, g3, g4, g5, g6, g7⟩ := ai.fl (nm := xN X (i + 1)) hX
          have enp : np' = np := nI_inj (by omega) (by omega) (by rw [← g1.1, ← p1.1, eT])
          subst enp
          refine ⟨eT, ?_⟩
          rw [if_neg (fun w => by rw [lv.mp w] at cl; exact absurd cl (by decide)), if_neg (by decide)]
          have fn : fnF S (nI t) (xN X (i + 1)) = ff (isPn X T t (xN X (i + 1))) 0 np' := by
            unfold fnF
            rw [ct, g2, g4, nc (by omega), nc (by omega), g6]
          rw [fn]
          by_cases c0 : 0 ≤ ff (isPn X T t (xN X (i + 1))) 0 np'
          · rw [if_pos c0, if_pos c0, if_pos rfl]
          · rw [if_neg c0, if_neg c0]
        · left
          rw [if_pos (lv.mpr (by simpa using cl)), ← hT1, if_neg cl, if_pos rfl]
          exact bf_nt (a := 5) hR.1.2.2.2.2.1 hR.1.2.2.2.2.2.1 (by decide)
      rcases ff_val (p := isPn X T1 t (xN X (i + 1))) (i := 0) (k := np) with v | ⟨q, _, q1, _, v⟩
      · rw [v, if_pos rfl]
        obtain ⟨T6, t1, t2, _⟩ := tail (-1) 0
        rw [t1]
        rw [if_pos rfl] at t2
        refine wp_some ⟨⟨rfl, f1.tr ((FX.nt f1.2.2.1).tr t2)⟩, fun R sl S n h x hR hT h51 hn hk => Or.inl ?_⟩
        rcases spec R sl S h x hR hT with hB | ⟨eT, e15⟩
        · exact hB.fx ((FX.nt f1.2.2.1).tr t2)
        · rw [eT] at v t2
          rw [e15, v, if_neg (by decide)]
          exact (bf_nt (a := 3) (by unfold nuS; rw [sI_ne (by omega)]; exact hR.1.2.2.2.2.1) hR.1.2.2.2.2.2.1 (by decide)).fx t2
      · rw [v, if_neg (nI_m1 (by omega))]
        obtain ⟨T6, t1, t2, t3⟩ := tail (nI q) 1
        rw [t1]
        rw [if_neg (by decide)] at t2
        refine wp_some ⟨⟨rfl, f1.tr t2⟩, fun R sl S n h x hR hT h51 hn hk => ?_⟩
        rcases spec R sl S h x hR hT with hB | ⟨eT, e15⟩
        · exact Or.inl (hB.fx t2)
        · right
          subst eT
          rw [v, if_pos (nI0le (by omega))] at e15
          rw [e15] at hk ⊢
          have e6 := t3 n h51 hn (by decide)
          have n3 := nl_52 (T := T1) (y := y)
          have ctr := (hR.2.2.2.2.2.2.2.2.2.2).nl hT hkd
          obtain ⟨a1, a2, a3, a4, a5⟩ := hR.em (S2 := nuS S x) (u1 := 22) (u2 := nI q + 1) (u3 := 0) h51 hn nu_o rfl n3.1 n3.2 hk ctr
          rw [e6]
          exact ⟨a1, a2, rfl, em_51, em_row, by omega⟩
    · rw [if_neg cu, c_note (by omega), bis]
      refine wp_some ⟨⟨rfl, FX.nt w2⟩, fun R sl S n h x hR hT h51 hn hk => Or.inl (bad R sl S x hR ?_)⟩
      rw [ok17]
      simp only [decide_eq_false_iff_not]
      obtain ⟨p, r, n', b1, b2, b3, b4, b5, b6, b7, b8, b9⟩ := both R sl S x h hR hT
      rw [b5, ct]
      exact fun w => cu ((hR.2.2.2.2.2.2.2.2.1 t b9).un.mpr w.2)
end CXU
