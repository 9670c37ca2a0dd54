/-! is and ^; a row that is laid without a type -/
section CXT
variable {R : RgR} {S S' S1 S2 T T' T1 T2 T5 : gSt} {X : Lx} {nf d i k n m t e w c a b q g f h r s y z : Nat} {x v x' pl u1 u2 u3 : Int32} {sl : Int32 → Int32}
theorem FX.c52 (t52 : T5.2 = T.2) (o5 : ∀ k j, ¬ (k = 52 ∧ 2 ≤ j) → T5.1 k j = T.1 k j) (hW : WT T) : FX T T5 := by
  have w := hW.ag t52 (o5 27 0 (by omega))
  exact ⟨fun k a => funext fun j => o5 k j (by omega), fun q j _ => by rw [t52], w.1, w.2, fun _ => ⟨o5 53 0 (by omega), o5 54 0 (by omega)⟩, fun c hc hc2 => ⟨c, by rw [o5 51 0 (by omega)]; exact hc, Nat.le_refl _, hc2, fun g j a b _ => o5 g j (by omega)⟩, fun v hv => o5 52 v (by omega)⟩
theorem FE.c88 (ho : ∀ k, ¬ (88 ≤ k ∧ k ≤ 92) → S2.1 k = S.1 k) (h2 : S2.2 = S.2) : FE S S2 := by
  have e5 : cn S2 = cn S := by unfold cn; rw [ho 65 (by omega)]
  refine ⟨fun k hk => ho k (by omega), h2, fun hg => ⟨by unfold Tg; rw [e5, ho 65 (by omega)]; exact hg, by omega, fun _ p _ => ?_⟩, fun w => by rw [ho 7 (by omega)]; exact w⟩
  unfold rwT
  rw [ho 66 (by omega), ho 67 (by omega), ho 68 (by omega), ho 69 (by omega), ho 70 (by omega)]
/-- a row is laid, counts are made -/
theorem XR.em (hR : XR R sl X S T) (h51 : T.1 51 0 = nI n) (hn : n < 6032) (ho : ∀ k, ¬ (88 ≤ k ∧ k ≤ 92) → S2.1 k = S.1 k) (h2 : S2.2 = S.2) (t52 : T5.2 = T.2) (o5 : ∀ k j, ¬ (k = 52 ∧ 2 ≤ j) → T5.1 k j = T.1 k j) (ck : Ck S2) (hct : CtR S2 T5) : XR R sl X S2 (emS T5 n u1 u2 u3) ∧ TyF S S2 T (emS T5 n u1 u2 u3) ∧ FX T (emS T5 n u1 u2 u3) ∧ FE S S2 ∧ lvC (emS T5 n u1 u2 u3) 16384 = lvC T 16384 := by
  have fe := FE.c88 ho h2
  have fx : FX T T5 := FX.c52 t52 o5 hR.1.2.2.2.2.2.2
  have fx6 : FX T (emS T5 n u1 u2 u3) := fx.tr (FX.em fx.2.2.1 (by rw [o5 51 0 (by omega)]; exact h51) hn)
  have F : TyF S S2 T (emS T5 n u1 u2 u3) := TyF.st (by rw [ho 65 (by omega)]) (fun k _ _ => ho k (by omega)) (ho 15 (by omega)) (show T5.2 62 = _ by rw [t52]) (show T5.2 63 0 = _ by rw [t52])
  exact ⟨hR.fx F fe fx6 (by rw [ho 7 (by omega)]; exact hR.1.2.2.2.2.1) (by rw [em_o (by omega), o5 53 0 (by omega)]; exact hR.1.2.2.2.2.2.1) ck (hct.st (em_o (by omega)) (fun _ _ _ => rfl)), F, fx6, fe, lvC_62 (T := T) (T' := emS T5 n u1 u2 u3) (show T5.2 62 = T.2 62 by rw [t52]) (show T5.2 63 = T.2 63 by rw [t52]) 16384⟩
theorem nl_52 : (if kdC T y = 4 then sI T 52 3 (T.1 52 3 + 1) else T).2 = T.2 ∧ ∀ k j, ¬ (k = 52 ∧ 2 ≤ j) → (if kdC T y = 4 then sI T 52 3 (T.1 52 3 + 1) else T).1 k j = T.1 k j := by
  split
  · exact ⟨rfl, fun k j hk => by rw [rdI, if_neg (fun w => hk ⟨w.1, by omega⟩)]⟩
  · exact ⟨rfl, fun _ _ _ => rfl⟩
theorem nu_o : ∀ k, ¬ (88 ≤ k ∧ k ≤ 92) → (nuS S x).1 k = S.1 k := fun k hk => by
  unfold nuS
  rw [sI_ne (by omega)]
/-- what a ^ comes to -/
def CeO (R : RgR) (sl : Int32 → Int32) (X : Lx) (S S' T : gSt) (ty op : Int32) (n y : Nat) (T' : gSt) : Prop := XR R sl X S' T' ∧ TyF S S' T T' ∧ (∃ h, TyR R S' T' h ty y) ∧ T'.1 51 0 = nI (n + 1) ∧ (∃ c, wdR R S' T' ty c ∧ cw3 T' n = (op, 0, c)) ∧ lvC T' 16384 ≤ lvC T 16384
/-- checkCell -/
theorem y_cel {u : Nat} {nm : Int64} {pn : Int32} (hX : XO X) (hw : WX X T) (hy : tyY T y) (hu : u ≤ 2) (hd : 90 ≤ d) : wp (PP nf d 154 T [nI y, pl, nI u] []) (fun r _ T' => XA T r T' ∧ ∀ R sl S n y' h x, r = nI y' → y' < 16387 → XR R sl X S T → TyR R S T h x y → T.1 51 0 = nI n → n < 6032 → Ck (thC S 16 x nm pl pn).2.2 → BfR (thC S 16 x nm pl pn).2.2 T' ∨ CeO R sl X S (thC S 16 x nm pl pn).2.2 T (thC S 16 x nm pl pn).1 (if u = 0 then 20 else if u = 1 then 24 else 25) n y' T') := by
  obtain ⟨d, rfl⟩ : ∃ g, d = g + 2 := ⟨d - 2, by omega⟩
  have hw0 := hw
  have yl := hy.lt
  obtain ⟨w1, w2, w3, w4, w5, w6, ⟨ti, w7, w7'⟩, w8, w9⟩ := hw
  rw [e_Exprs_checkCell _ (d + 1)]
  unfold rb_Exprs_checkCell
  have bad : ∀ (ρ : RgR) (σ : Int32 → Int32) (S : gSt) (x : Int32), XR ρ σ X S T → thOk S 16 x = false → BfR (thC S 16 x nm pl pn).2.2 (ntS T 4 pl) := fun ρ σ S x hR ht => by
    unfold thC
    rw [ht, if_neg (by decide)]
    exact bf_nt (a := 4) hR.1.2.2.2.2.1 hR.1.2.2.2.2.2.1 (by decide)
  have ok16 : ∀ (S : gSt) (x : Int32), thOk S 16 x = decide (¬ isPt S x = 0 ∧ ¬ 0 ≤ tf S 69 x) := fun S x => by unfold thOk; rw [if_pos rfl]
  rw [c_isPointed (by omega) (by omega), bis]
  by_cases cp : kdC T y = 3 ∨ kdC T y = 4
  · rw [if_pos cp, if_neg (by decide), c_titleBehind (by omega) (by omega), bis]
    have y3 : ¬ y < 3 := fun w => by unfold kdC at cp; rw [if_pos w] at cp; omega
    have hb : tyY T (bhC T y) := by
      rcases kO_v w2 hy with h | h
      · exact absurd h y3
      · rcases h.2 with w | w
        · unfold kdC at cp; rw [if_neg y3] at cp; omega
        · exact w.2.2
    have bl := hb.lt
    by_cases ct : tbC T y = -1
    · have rl : rkC T y < 16 := Nat.mod_lt _ (by omega)
      rw [if_pos ct, c_regionOf (by omega) (by omega), bis, c_live rl (by omega), bis, c_dem (by omega), bis]
      generalize hT1 : (if (if fb (flw T) (40 + rkC T y) = true then (1 : Int32) else 0) = 0 then ntS T 5 pl else T) = T1
      have f1 : FX T T1 := by rw [← hT1]; exact FX.dm w2
      have t12 : T1.2 = T.2 := by
        rw [← hT1]
        exact dm_2
      have eb : bhC T1 y = bhC T y := by unfold bhC kO SW; rw [t12]
      rw [c_null (by omega) (by omega), bis]
      generalize hT3 : (if kdC T1 y = 4 then sI T1 52 3 (T1.1 52 3 + 1) else T1) = T3
      have f3 : FX T1 T3 := by rw [← hT3]; exact FX.nl f1.2.2.1
      have n3 := nl_52 (T := T1) (y := y)
      rw [hT3] at n3
      have f13 := f1.tr f3
      have eb3 : bhC T3 y = bhC T y := by unfold bhC kO SW; rw [n3.1, t12]
      rw [c_behind (by omega) (by omega), bis, eb3]
      obtain ⟨T6, r1, r2, r3⟩ := a_emp (nf := nf) (d := d + 1) (T := T3) (off := 0) hu bl f13.2.2.1 ((hw0.fx f13).2.2.2.2.2.1) (by omega)
      rw [r1, bis]
      refine wp_some ⟨⟨bhC T y, rfl, (f13.tr r2).2.2.2.1 _ hb, f13.tr r2⟩, fun R sl S n y' h x hr hy' hR hT h51 hn hk => ?_⟩
      have ey : bhC T y = y' := nI_inj (by omega) (by omega) hr
      subst ey
      have np : ¬ isPt S x = 0 := fun w => hT.pt.mp w cp
      rcases hT.rd with ⟨e1, e2, e3⟩ | ⟨e1, e2, e3⟩ | ⟨e1, e2, e3⟩ | ⟨p, kd, r, n', b, g, e0, e1, e2, e3, e4, ec, e5, e6, e7, e8, e9, e9', e9'', e10, e11, e12, e13, e14, e15⟩
      · omega
      · omega
      · omega
      · have n69 : ¬ 0 ≤ S.1 69 p := fun w => by
          rcases hT.td hR.2.2.2.1 with ⟨q1, q2⟩ | ⟨_, p', t, g, r, n', W, _, _, _, _, _, q6, q7, _⟩
          · unfold isTd at q1
            rw [if_neg np, e1, nc (by omega)] at q1
            by_cases c : S.1 69 p < 0
            · have h1 := Int32.lt_iff_toInt_lt.mp c
              have h2 := Int32.le_iff_toInt_le.mp w
              have e0 : (0 : Int32).toInt = 0 := by decide
              omega
            · rw [if_neg c] at q1
              exact absurd q1 (by decide)
          · rw [ct] at q7
            exact absurd q7.symm (nI_m1 (by omega))
        have tok : thOk S 16 x = true := by
          rw [ok16]
          unfold tf
          rw [e1, nc (by omega)]
          simp only [decide_eq_true_eq]
          rw [e1] at np
          exact ⟨np, n69⟩
        have lv := hR.2.2.2.2.2.1 r n' e10
        rw [e13] at hT1
        have ex67 : tf S 67 x = nI r := by unfold tf; rw [e1, nc (by omega)]; exact e9'
        have ex68 : tf S 68 x = S.1 68 p := by unfold tf; rw [e1, nc (by omega)]
        unfold thC at hk ⊢
        rw [tok, if_pos rfl, ex67] at hk ⊢
        by_cases cl : fb (flw T) (40 + n') = true
        · right
          have eT : T1 = T := by rw [← hT1, if_pos cl, if_neg (by decide)]
          have nl : ¬ isLv S (nI r) = 0 := fun w => by rw [lv.mp w] at cl; exact absurd cl (by decide)
          rw [if_neg nl, if_pos rfl, ex68] at hk ⊢
          subst eT
          have e6 := r3 n (by rw [n3.2 51 0 (by omega)]; exact h51) hn
          have ctr := (hR.2.2.2.2.2.2.2.2.2.2).nl hT cp
          rw [hT3] at ctr
          rw [if_neg n69, ← e14] at e15
          obtain ⟨a1, a2, a3, a4, a5⟩ := hR.em (S2 := nuS S x) (T5 := T3) (u1 := (if u = 0 then 20 else if u = 1 then 24 else 25)) (u2 := 0) (u3 := nI (wdC T3 (bhC T1 y))) h51 hn nu_o rfl n3.1 n3.2 hk ctr
          rw [e6]
          have ty6 := TyR.mo a2 (fun _ _ z => z) _ _ _ e15
          refine ⟨a1, a2, ⟨g, ty6⟩, em_51, ⟨nI (wdC T3 (bhC T1 y)), ⟨g, bhC T1 y, ty6, ?_⟩, em_row⟩, by omega⟩
          rw [e15.wd a2]
          congr 1
          exact e15.wd (S' := S) (T' := T3) (Xt.ag (by rw [n3.1]) (by rw [n3.1])).tf
        · left
          rw [if_pos (lv.mpr (by simpa using cl))]
          have eT : T1 = ntS T 5 pl := by rw [← hT1, if_neg cl, if_pos rfl]
          rw [eT] at f3
          exact (bf_nt (a := 5) hR.1.2.2.2.2.1 hR.1.2.2.2.2.2.1 (by decide)).fx (f3.tr r2)
    · rw [if_neg ct, c_note (by omega), bis]
      refine wp_some ⟨⟨1, rfl, tyY_1, FX.nt w2⟩, fun R sl S n y' h x hr hy' hR hT h51 hn hk => Or.inl (bad R sl S x hR ?_)⟩
      rw [ok16]
      rcases hT.td hR.2.2.2.1 with ⟨q1, q2⟩ | ⟨q1, p, t, g, r, n', W, e1, e2, e3, e4, e5, e6, e7, _⟩
      · exact absurd q2 ct
      · simp only [decide_eq_false_iff_not]
        unfold tf
        rw [e1, nc (by omega), e5]
        exact fun w => w.2 (nI0le (by omega))
  · rw [if_neg cp, if_pos rfl, c_note (by omega), bis]
    refine wp_some ⟨⟨1, rfl, tyY_1, FX.nt w2⟩, fun R sl S n y' h x hr hy' hR hT h51 hn hk => Or.inl (bad R sl S x hR ?_)⟩
    rw [ok16]
    simp only [decide_eq_false_iff_not]
    exact fun w => w.1 (hT.pt.mpr cp)
end CXT
