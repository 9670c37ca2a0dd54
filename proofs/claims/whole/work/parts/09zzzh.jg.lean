/-! what the notes of an EXPR without a fault hold -/
def jG (T : gSt) (j : T5) : Prop := (j.1 = 6 ∨ j.1 = 16 ∨ j.1 = 17 → ∃ p u, j.2.2.1 = nI p ∧ 1 ≤ p ∧ p < cn T ∧ T.1 69 p = nI u ∧ u < inn T) ∧ (j.1 = 14 ∨ j.1 = 15 → tV T j.2.2.1) ∧ (j.1 = 19 → tR T j.2.2.2.2 ∧ tR T j.2.2.1)
def jGs (T : gSt) (js : List T5) : Prop := ∀ j, j ∈ js → jG T j
def amN (X : Lx) (A B : Prop) (ta : Tr) (k i : Nat) : Prop := (k ≠ 1 → A) ∧ (k = 4 ∨ k = 5 ∨ k = 10 ∨ (k = 8 ∧ xK X i = 30) → B) ∧ (k = 9 → tkd X ta = 14 ∨ tkd X ta = 15)
/-- & stands ahead of a field or an element -/
def amT (X : Lx) : Tr → Prop
  | .add (.add (.var k) (.add (.var i) (.var _))) (.add a b) => amN X (amT X a) (amT X b) a k i
  | _ => True
def JF (X : Lx) (t : Tr) : Prop := ∀ (m : Bool) (lo hi f : Nat) (w : Int32) (T : gSt), Wb X t m lo hi → Ck T → T.1 7 0 = 0 → (m = true → agOk T f w t) → cn (chk X t f w T).2.2.2 < 6000 → (chk X t f w T).2.2.2.1 7 0 = 0 → jGs (chk X t f w T).2.2.2 (chk X t f w T).2.2.1 ∧ amT X t
section JGG
variable {T T' T1 S : gSt} {X : Lx} {p q k m n f v i e lo hi lo' hi' u : Nat} {x y w r s a b pl : Int32} {z j : T5} {js ks : List T5} {nm : Int64} {ta tb t : Tr} {R R' : ChR}
theorem jG.fe (h : jG T j) (hF : FE T T') (hg : Tg T) (hc : cn T' < 6000) : jG T' j := by
  have t3 := hF.2.2.1 hg
  refine ⟨fun q => ?_, fun q => (h.2.1 q).fe hF hg, fun q => ⟨(h.2.2 q).1.fe hF hg, (h.2.2 q).2.fe hF hg⟩⟩
  obtain ⟨p, u, a1, a2, a3, a4, a5⟩ := h.1 q
  exact ⟨p, u, a1, a2, by omega, by rw [(row5 (t3.2.2 hc p a3)).2.2.2.1]; exact a4, by rw [hF.einn]; exact a5⟩
theorem jGs.fe (h : jGs T js) (hF : FE T T') (hg : Tg T) (hc : cn T' < 6000) : jGs T' js := fun j hj => (h j hj).fe hF hg hc
theorem jGs.ap (h : jGs T js) (h2 : jGs T ks) : jGs T (js ++ ks) := fun j hj => (List.mem_append.mp hj).elim (h j) (h2 j)
theorem jGs.sn (h : jG T j) : jGs T [j] := fun x hx => by rw [List.mem_singleton.mp hx]; exact h
theorem jGs.nl : jGs T [] := fun x hx => absurd hx (List.not_mem_nil)
theorem jG.no (h : ¬ (j.1 = 6 ∨ j.1 = 16 ∨ j.1 = 17)) (h2 : ¬ (j.1 = 14 ∨ j.1 = 15)) (h3 : ¬ j.1 = 19) : jG T j := ⟨fun q => absurd q h, fun q => absurd q h2, fun q => absurd q h3⟩
theorem jG.n1 {o a b c d : Int32} (h : ¬ (o = 6 ∨ o = 16 ∨ o = 17)) (h2 : ¬ (o = 14 ∨ o = 15)) (h3 : ¬ o = 19) : jG T (j1 o a b c d) := jG.no h h2 h3
theorem jG.n19 {a b c d : Int32} (h : tR T d) (h2 : tR T b) : jG T (j1 19 a b c d) := ⟨fun q => absurd q (show ¬ ((19 : Int32) = 6 ∨ (19 : Int32) = 16 ∨ (19 : Int32) = 17) from by decide), fun q => absurd q (show ¬ ((19 : Int32) = 14 ∨ (19 : Int32) = 15) from by decide), fun _ => ⟨h, h2⟩⟩
theorem amT_n : amT X (tD k i e ta tb) = amN X (amT X ta) (amT X tb) ta k i := rfl
theorem FE.ok (h : FE T T') (c : T'.1 7 0 = 0) : T.1 7 0 = 0 := Decidable.byContradiction fun q => h.2.2.2 q c
theorem j_lf : jGs (lfC X i T).2.2.2 (lfC X i T).2.2.1 := by
  have n : ∀ (S : gSt) (o a b c d : Int32), ¬ (o = 6 ∨ o = 16 ∨ o = 17) → ¬ (o = 14 ∨ o = 15) → ¬ o = 19 → jGs S [j1 o a b c d] := fun S o a b c d h1 h2 h3 => jGs.sn (jG.no h1 h2 h3)
  unfold lfC
  repeat' split
  · exact n _ _ _ _ _ _ (by decide) (by decide) (by decide)
  · exact n _ _ _ _ _ _ (by decide) (by decide) (by decide)
  · exact n _ _ _ _ _ _ (by decide) (by decide) (by decide)
  · exact jGs.nl
  · exact n _ _ _ _ _ _ (by decide) (by decide) (by decide)
  · exact n _ _ _ _ _ _ (by decide) (by decide) (by decide)
theorem j_tl (hA : JF X ta) (hw : Wb X ta false lo hi) (h : Ck T) (h0 : T.1 7 0 = 0) (hc : cn (tlC X (chk X ta) ta i T).2.2.2 < 6000) (hf : (tlC X (chk X ta) ta i T).2.2.2.1 7 0 = 0) : jGs (tlC X (chk X ta) ta i T).2.2.2 (tlC X (chk X ta) ta i T).2.2.1 ∧ amT X ta := by
  have fa := chk_fe (X := X) ta 0 0 T
  have ga := fa.tg h.1
  unfold tlC at hc hf ⊢
  dsimp only at hc hf ⊢
  by_cases c1 : (chk X ta 0 0 T).2.2.2.1 7 0 = 0
  · simp only [if_pos c1] at hc hf ⊢
    have fth : FE (chk X ta 0 0 T).2.2.2 (thC (chk X ta 0 0 T).2.2.2 (tlK X i) (chk X ta 0 0 T).1 (xN X (i + 1)) (plT X ta) (nI (xP X (i + 1)))).2.2 := FE.th
    have c2 := fth.lt ga hc
    have jA := hA false lo hi 0 0 T hw h h0 (fun e => absurd e (by decide)) c2 c1
    have hv := iv_ex0 (chk_inv ta) hw h c2
    have th := (iv_th (r := tlK X i) (nm := xN X (i + 1)) (x := plT X ta) (y := nI (xP X (i + 1))) hv.1 (hv.2 c1).1 c2 hc)
    refine ⟨(jA.1.fe fth ga hc).ap (jGs.sn ?_), jA.2⟩
    by_cases k49 : xK X i = 49
    · refine ⟨fun _ => ?_, fun q => ?_, fun q => ?_⟩
      · obtain ⟨p, e1, p1, p2, p3, p4⟩ := (th.2 hf).2 (by unfold tlK; rw [if_pos k49])
        have o5 := (th.1.row p1 p2).2.2.2.2
        rw [if_pos p3] at o5
        obtain ⟨u, u1, u2⟩ := o5
        exact ⟨p, u, e1, p1, p2, u1, u2⟩
      · exact absurd q (by show ¬ ((if xK X i = 49 then (6 : Int32) else if xK X i = 61 then 10 else 11) = 14 ∨ (if xK X i = 49 then (6 : Int32) else if xK X i = 61 then 10 else 11) = 15); rw [if_pos k49]; decide)
      · exact absurd q (by show ¬ (if xK X i = 49 then (6 : Int32) else if xK X i = 61 then 10 else 11) = 19; rw [if_pos k49]; decide)
    · have n : ∀ o : Int32, o = 10 ∨ o = 11 → jG (thC (chk X ta 0 0 T).2.2.2 (tlK X i) (chk X ta 0 0 T).1 (xN X (i + 1)) (plT X ta) (nI (xP X (i + 1)))).2.2 (j1 o (thC (chk X ta 0 0 T).2.2.2 (tlK X i) (chk X ta 0 0 T).1 (xN X (i + 1)) (plT X ta) (nI (xP X (i + 1)))).2.1 (chk X ta 0 0 T).1 (thC (chk X ta 0 0 T).2.2.2 (tlK X i) (chk X ta 0 0 T).1 (xN X (i + 1)) (plT X ta) (nI (xP X (i + 1)))).1 0) := by
        intro o ho
        refine jG.no ?_ ?_ ?_
        · show ¬ (o = 6 ∨ o = 16 ∨ o = 17)
          rcases ho with rfl | rfl <;> decide
        · show ¬ (o = 14 ∨ o = 15)
          rcases ho with rfl | rfl <;> decide
        · show ¬ o = 19
          rcases ho with rfl | rfl <;> decide
      rw [if_neg k49]
      refine n _ ?_
      split
      · exact Or.inl rfl
      · exact Or.inr rfl
  · simp only [if_neg c1] at hf
    exact absurd hf c1
theorem j_ex (hA : JF X ta) (hB : JF X tb) (hw : Wb X ta false lo hi) (hw2 : Wb X tb false lo' hi') (h : Ck T) (h0 : T.1 7 0 = 0) (hc : cn (exC X (chk X ta) (chk X tb) ta tb T).2.2.2 < 6000) (hf : (exC X (chk X ta) (chk X tb) ta tb T).2.2.2.1 7 0 = 0) : jGs (exC X (chk X ta) (chk X tb) ta tb T).2.2.2 (exC X (chk X ta) (chk X tb) ta tb T).2.2.1 ∧ amT X ta ∧ amT X tb := by
  have fa := chk_fe (X := X) ta 0 0 T
  have ga := fa.tg h.1
  unfold exC at hc hf ⊢
  dsimp only at hc hf ⊢
  by_cases c1 : (chk X ta 0 0 T).2.2.2.1 7 0 = 0
  · simp only [if_pos c1] at hc hf ⊢
    have fb := chk_fe (X := X) tb 0 0 (chk X ta 0 0 T).2.2.2
    have gb := fb.tg ga
    by_cases c2 : (chk X tb 0 0 (chk X ta 0 0 T).2.2.2).2.2.2.1 7 0 = 0
    · simp only [if_pos c2] at hc hf ⊢
      have fx : FE (chk X tb 0 0 (chk X ta 0 0 T).2.2.2).2.2.2 (ixC (chk X tb 0 0 (chk X ta 0 0 T).2.2.2).2.2.2 (chk X ta 0 0 T).1 (chk X tb 0 0 (chk X ta 0 0 T).2.2.2).1 (plT X ta) (plT X tb)).2 := FE.ix
      have cb := fx.lt gb hc
      have ca := fb.lt ga cb
      have jA := hA false lo hi 0 0 T hw h h0 (fun e => absurd e (by decide)) ca c1
      have hv := iv_ex0 (chk_inv ta) hw h ca
      have jB := hB false lo' hi' 0 0 _ hw2 hv.1 c1 (fun e => absurd e (by decide)) cb c2
      exact ⟨((jA.1.fe (fb.tr fx) ga hc).ap (jB.1.fe fx gb hc)).ap (jGs.sn (jG.n1 (by decide) (by decide) (by decide))), jA.2, jB.2⟩
    · simp only [if_neg c2] at hf
      exact absurd hf c2
  · simp only [if_neg c1] at hf
    exact absurd hf c1
theorem j_bn {sg : Int32} (hA : JF X ta) (hB : JF X tb) (hw : Wb X ta false lo hi) (hw2 : Wb X tb false lo' hi') (h : Ck T) (h0 : T.1 7 0 = 0) (hc : cn (bnC X (chk X ta) (chk X tb) ta tb sg T).2.2.2 < 6000) (hf : (bnC X (chk X ta) (chk X tb) ta tb sg T).2.2.2.1 7 0 = 0) : jGs (bnC X (chk X ta) (chk X tb) ta tb sg T).2.2.2 (bnC X (chk X ta) (chk X tb) ta tb sg T).2.2.1 ∧ amT X ta ∧ amT X tb := by
  have fa := chk_fe (X := X) ta 0 0 T
  have ga := fa.tg h.1
  unfold bnC at hc hf ⊢
  dsimp only at hc hf ⊢
  by_cases c1 : (chk X ta 0 0 T).2.2.2.1 7 0 = 0
  · simp only [if_pos c1] at hc hf ⊢
    have fb := chk_fe (X := X) tb 0 0 (chk X ta 0 0 T).2.2.2
    have gb := fb.tg ga
    by_cases c2 : (chk X tb 0 0 (chk X ta 0 0 T).2.2.2).2.2.2.1 7 0 = 0
    · simp only [if_pos c2] at hc hf ⊢
      have fx : FE (chk X tb 0 0 (chk X ta 0 0 T).2.2.2).2.2.2 (opC (chk X tb 0 0 (chk X ta 0 0 T).2.2.2).2.2.2 sg (chk X ta 0 0 T).1 (chk X tb 0 0 (chk X ta 0 0 T).2.2.2).1 (plT X ta) (plT X tb)).2 := FE.op
      have cb := fx.lt gb hc
      have ca := fb.lt ga cb
      have jA := hA false lo hi 0 0 T hw h h0 (fun e => absurd e (by decide)) ca c1
      have hv := iv_ex0 (chk_inv ta) hw h ca
      have hv2 := iv_ex0 (chk_inv tb) hw2 hv.1 cb
      have jB := hB false lo' hi' 0 0 _ hw2 hv.1 c1 (fun e => absurd e (by decide)) cb c2
      have tl := (hv.2 c1).1.fe fb ga
      have op := iv_op (sg := sg) (r := (chk X tb 0 0 (chk X ta 0 0 T).2.2.2).1) (x := plT X ta) (y := plT X tb) hv2.1 tl cb
      exact ⟨((jA.1.fe (fb.tr fx) ga hc).ap (jB.1.fe fx gb hc)).ap (jGs.sn (jG.n19 op.2 (tl.fe fx gb))), jA.2, jB.2⟩
    · simp only [if_neg c2] at hf
      exact absurd hf c2
  · simp only [if_neg c1] at hf
    exact absurd hf c1
theorem j_nn (hA : JF X ta) (hw : Wb X ta false lo hi) (h : Ck T) (h0 : T.1 7 0 = 0) (hc : cn (nnC X (chk X ta) ta T).2.2.2 < 6000) (hf : (nnC X (chk X ta) ta T).2.2.2.1 7 0 = 0) : jGs (nnC X (chk X ta) ta T).2.2.2 (nnC X (chk X ta) ta T).2.2.1 ∧ amT X ta := by
  have fa := chk_fe (X := X) ta 0 0 T
  have ga := fa.tg h.1
  unfold nnC at hc hf ⊢
  dsimp only at hc hf ⊢
  by_cases c1 : (chk X ta 0 0 T).2.2.2.1 7 0 = 0
  · simp only [if_pos c1] at hc hf ⊢
    by_cases c2 : isPt (chk X ta 0 0 T).2.2.2 (chk X ta 0 0 T).1 = 0
    · simp only [if_pos c2] at hf
      exact absurd hf (flT_bad (by decide))
    simp only [if_neg c2] at hc hf ⊢
    have fk : FE (chk X ta 0 0 T).2.2.2 (knS (nuS (chk X ta 0 0 T).2.2.2 (chk X ta 0 0 T).1) (1, tf (chk X ta 0 0 T).2.2.2 67 (chk X ta 0 0 T).1, tf (chk X ta 0 0 T).2.2.2 68 (chk X ta 0 0 T).1, tf (chk X ta 0 0 T).2.2.2 69 (chk X ta 0 0 T).1, tf (chk X ta 0 0 T).2.2.2 70 (chk X ta 0 0 T).1)) := FE.nu.tr FE.kn
    have jA := hA false lo hi 0 0 T hw h h0 (fun e => absurd e (by decide)) (fk.lt ga hc) c1
    exact ⟨(jA.1.fe fk ga hc).ap (jGs.sn (jG.n1 (by decide) (by decide) (by decide))), jA.2⟩
  · simp only [if_neg c1] at hf
    exact absurd hf c1
theorem j_sz (hA : JF X ta) (hw : Wb X ta false lo hi) (h : Ck T) (h0 : T.1 7 0 = 0) (hc : cn (szC X (chk X ta) ta T).2.2.2 < 6000) (hf : (szC X (chk X ta) ta T).2.2.2.1 7 0 = 0) : jGs (szC X (chk X ta) ta T).2.2.2 (szC X (chk X ta) ta T).2.2.1 ∧ amT X ta := by
  unfold szC at hc hf ⊢
  dsimp only at hc hf ⊢
  by_cases c1 : (chk X ta 0 0 T).2.2.2.1 7 0 = 0
  · simp only [if_pos c1] at hc hf ⊢
    by_cases c2 : isRo (chk X ta 0 0 T).2.2.2 (chk X ta 0 0 T).1 = 0
    · simp only [if_pos c2] at hf
      exact absurd hf (flT_bad (by decide))
    simp only [if_neg c2] at hc hf ⊢
    have jA := hA false lo hi 0 0 T hw h h0 (fun e => absurd e (by decide)) hc c1
    exact ⟨jA.1.ap (jGs.sn (jG.n1 (by decide) (by decide) (by decide))), jA.2⟩
  · simp only [if_neg c1] at hf
    exact absurd hf c1
theorem j_md {sk : Int32} (hsk : sk = 1 ∨ sk = 3) (hA : JF X ta) (hw : Wb X ta false lo hi) (h : Ck T) (h0 : T.1 7 0 = 0) (hjs : jGs T js) (hc : cn (mdC X (chk X ta) ta sk r js T).2.2.2 < 6000) (hf : (mdC X (chk X ta) ta sk r js T).2.2.2.1 7 0 = 0) : jGs (mdC X (chk X ta) ta sk r js T).2.2.2 (mdC X (chk X ta) ta sk r js T).2.2.1 ∧ amT X ta := by
  have fa := chk_fe (X := X) ta 0 0 T
  have ga := fa.tg h.1
  unfold mdC at hc hf ⊢
  dsimp only at hc hf ⊢
  generalize hT1 : (if (chk X ta 0 0 T).2.2.2.1 7 0 = 0 ∧ ¬ 0 ≤ (chk X ta 0 0 T).1 then flT (chk X ta 0 0 T).2.2.2 4 (plT X ta) else (chk X ta 0 0 T).2.2.2) = T1 at *
  have f1 : FE (chk X ta 0 0 T).2.2.2 T1 := by
    rw [← hT1]
    split
    · exact FE.fl (by decide)
    · exact FE.rf
  by_cases c1 : T1.1 7 0 = 0
  · simp only [if_pos c1] at hc hf ⊢
    have c0 := f1.ok c1
    have c2 : 0 ≤ (chk X ta 0 0 T).1 := Decidable.byContradiction fun q => by
      rw [if_pos ⟨c0, q⟩] at hT1
      rw [← hT1] at c1
      exact absurd c1 (flT_bad (by decide))
    have fk : FE T1 (knS (mkS T1) (sk, r, (chk X ta 0 0 T).1, -1, 0)) := FE.mk.tr FE.kn
    have cc := (f1.tr fk).lt ga hc
    have jA := hA false lo hi 0 0 T hw h h0 (fun e => absurd e (by decide)) cc c0
    have hv := iv_ex0 (chk_inv ta) hw h cc
    have tvR : tV (chk X ta 0 0 T).2.2.2 (chk X ta 0 0 T).1 := by
      rcases (hv.2 c0).1 with z | z | z
      · rw [z] at c2; exact absurd c2 (by decide)
      · rw [z] at c2; exact absurd c2 (by decide)
      · exact z
    refine ⟨((hjs.fe (fa.tr (f1.tr fk)) h.1 hc).ap (jA.1.fe (f1.tr fk) ga hc)).ap (jGs.sn ?_), jA.2⟩
    have hj : ∀ o : Int32, o = 14 ∨ o = 15 → jG (knS (mkS T1) (sk, r, (chk X ta 0 0 T).1, -1, 0)) (j1 o r (chk X ta 0 0 T).1 (knR (mkS T1) (sk, r, (chk X ta 0 0 T).1, -1, 0)) 0) := by
      intro o ho
      refine ⟨fun q => ?_, fun _ => tvR.fe (f1.tr fk) ga, fun q => ?_⟩
      · exact absurd q (by show ¬ (o = 6 ∨ o = 16 ∨ o = 17); rcases ho with rfl | rfl <;> decide)
      · exact absurd q (by show ¬ o = 19; rcases ho with rfl | rfl <;> decide)
    refine hj _ ?_
    split
    · exact Or.inr rfl
    · exact Or.inl rfl
  · simp only [if_neg c1] at hf
    exact absurd hf c1
theorem j_rw (hA : JF X ta) (hB : JF X tb) (hw : Wb X ta false lo hi) (hw2 : Wb X tb false lo' hi') (h : Ck T) (hc0 : cn T < 6000) (hc : cn (rwC X (chk X ta) (chk X tb) ta tb i T).2.2.2 < 6000) (hf : (rwC X (chk X ta) (chk X tb) ta tb i T).2.2.2.1 7 0 = 0) : jGs (rwC X (chk X ta) (chk X tb) ta tb i T).2.2.2 (rwC X (chk X ta) (chk X tb) ta tb i T).2.2.1 ∧ amT X ta ∧ amT X tb := by
  have h1 := h.sl (X := X) (q := i + 1) hc0
  have f0 : FE T (slS X T (i + 1)) := FE.sl
  unfold rwC at hc hf ⊢
  dsimp only at hc hf ⊢
  generalize slS X T (i + 1) = T0 at *
  by_cases c0 : T0.1 7 0 = 0
  · simp only [if_pos c0] at hc hf ⊢
    have fa := chk_fe (X := X) ta 0 0 T0
    have ga := fa.tg h1.1
    generalize hT1 : (if (chk X ta 0 0 T0).2.2.2.1 7 0 = 0 ∧ ¬ (chk X ta 0 0 T0).1 = 0 then flT (chk X ta 0 0 T0).2.2.2 4 (plT X ta) else (chk X ta 0 0 T0).2.2.2) = T1 at *
    have f1 : FE (chk X ta 0 0 T0).2.2.2 T1 := by
      rw [← hT1]
      split
      · exact FE.fl (by decide)
      · exact FE.rf
    have fm : FE T1 (mdC X (chk X tb) tb 3 (srR X T (i + 1)) (chk X ta 0 0 T0).2.2.1 T1).2.2.2 := fe_md (chk_fe tb)
    have c1 := fm.ok hf
    have ca := f1.ok c1
    have g1 := f1.tg ga
    have cT1 := fm.lt g1 hc
    have ccA := f1.lt ga cT1
    have jA := hA false lo hi 0 0 T0 hw h1 c0 (fun e => absurd e (by decide)) ccA ca
    have hv := iv_ex0 (chk_inv ta) hw h1 ccA
    have e1 : T1 = (chk X ta 0 0 T0).2.2.2 := by
      rw [← hT1]
      split
      · rename_i z
        rw [if_pos z] at hT1
        rw [← hT1] at c1
        exact absurd c1 (flT_bad (by decide))
      · rfl
    have jm := j_md (r := srR X T (i + 1)) (js := (chk X ta 0 0 T0).2.2.1) (Or.inr rfl) hB hw2 (by rw [e1]; exact hv.1) c1 (by rw [e1]; exact jA.1) hc hf
    exact ⟨jm.1, jA.2, jm.2⟩
  · simp only [if_neg c0] at hf
    exact absurd hf c0
theorem j_an (hA : JF X ta) (hw : Wb X ta false lo hi) (h : Ck T) (h0 : T.1 7 0 = 0) (hc : cn (anC X (chk X ta) ta T).2.2.2 < 6000) (hf : (anC X (chk X ta) ta T).2.2.2.1 7 0 = 0) : jGs (anC X (chk X ta) ta T).2.2.2 (anC X (chk X ta) ta T).2.2.1 ∧ amT X ta ∧ (tkd X ta = 14 ∨ tkd X ta = 15) := by
  have fa := chk_fe (X := X) ta 0 0 T
  have ga := fa.tg h.1
  unfold anC at hc hf ⊢
  dsimp only at hc hf ⊢
  by_cases ct : tkd X ta = 14 ∨ tkd X ta = 15
  · simp only [if_pos ct] at hc hf ⊢
    by_cases c1 : (chk X ta 0 0 T).2.2.2.1 7 0 = 0
    · simp only [if_pos c1] at hc hf ⊢
      by_cases c2 : tkd X ta = 14 ∧ (chk X ta 0 0 T).2.2.2.1 12 (tf (chk X ta 0 0 T).2.2.2 69 (chk X ta 0 0 T).2.1).toNatClampNeg = 1
      · simp only [if_pos c2] at hf
        exact absurd hf (flT_bad (by decide))
      · simp only [if_neg c2] at hc hf ⊢
        have fk : FE (chk X ta 0 0 T).2.2.2 (knS (chk X ta 0 0 T).2.2.2 (1, tf (chk X ta 0 0 T).2.2.2 67 (chk X ta 0 0 T).2.1, (chk X ta 0 0 T).1, -1, 0)) := FE.kn
        have jA := hA false lo hi 0 0 T hw h h0 (fun e => absurd e (by decide)) (fk.lt ga hc) c1
        exact ⟨(jA.1.fe fk ga hc).ap (jGs.sn (jG.n1 (by decide) (by decide) (by decide))), jA.2, ct⟩
    · simp only [if_neg c1] at hf
      exact absurd hf c1
  · simp only [if_neg ct] at hf
    exact absurd hf (flT_bad (by decide))
theorem j_ag (hA : JF X ta) (hB : JF X tb) (hw1 : Wb X ta false lo hi) (hw2 : Wb X tb true lo' hi') (h : Ck T) (h0 : T.1 7 0 = 0) (hg : agOk T f w (tD k i e ta tb)) (hc : cn (agC X (chk X ta) (chk X tb) ta f w T).2.2.2 < 6000) (hf : (agC X (chk X ta) (chk X tb) ta f w T).2.2.2.1 7 0 = 0) : jGs (agC X (chk X ta) (chk X tb) ta f w T).2.2.2 (agC X (chk X ta) (chk X tb) ta f w T).2.2.1 ∧ amT X ta ∧ amT X tb := by
  unfold agC at hc hf ⊢
  have fa := chk_fe (X := X) ta 0 0 T
  by_cases c1 : (chk X ta 0 0 T).2.2.2.1 7 0 = 0
  · simp only [if_pos c1] at hc hf ⊢
    have g1 := fa.tg h.1
    have f2 := FE.ch (w := w) 7 (chk X ta 0 0 T).2.2.2 ((chk X ta 0 0 T).2.2.2.1 24 f)
    have g2 := f2.tg g1
    have f3 := FE.ft (T := (chT 7 (chk X ta 0 0 T).2.2.2 ((chk X ta 0 0 T).2.2.2.1 24 f) w).2) (x := (chk X ta 0 0 T).1) (y := (chT 7 (chk X ta 0 0 T).2.2.2 ((chk X ta 0 0 T).2.2.2.1 24 f) w).1) (v := plT X ta)
    have g3 := f3.tg g2
    have f4 := chk_fe (X := X) tb (f + 1) w (ftS (chT 7 (chk X ta 0 0 T).2.2.2 ((chk X ta 0 0 T).2.2.2.1 24 f) w).2 (chk X ta 0 0 T).1 (chT 7 (chk X ta 0 0 T).2.2.2 ((chk X ta 0 0 T).2.2.2.1 24 f) w).1 (plT X ta))
    have c3 := f4.lt g3 hc
    have c2 := f3.lt g2 c3
    have c0 := f2.lt g1 c2
    have k3 := f4.ok hf
    have i1 := (iv_ex0 (chk_inv ta) hw1 h c0).1
    have hg1 := hg.fe fa h.1 c0
    obtain ⟨a1, a2, a3⟩ := hg1.2 0 (by show 0 < lenT tb + 1; omega)
    rw [Nat.add_zero] at a1 a2 a3
    have i2 := i1.ch hg.1 a2 a3 c2
    have i3 := i2.1.ft c3
    have jA := hA false lo hi 0 0 T hw1 h h0 (fun e => absurd e (by decide)) c0 c1
    have jB := hB true lo' hi' (f + 1) w _ hw2 i3 k3 (fun _ => ?_) hc hf
    · exact ⟨(jA.1.fe (f2.tr (f3.tr f4)) g1 hc).ap jB.1, jA.2, jB.2⟩
    · have hg3 := hg1.fe (f2.tr f3) g1 c3
      refine ⟨hg3.1, fun j hj => ?_⟩
      have := hg3.2 (j + 1) (by show j + 1 < lenT tb + 1; omega)
      rw [show f + 1 + j = f + (j + 1) from by omega]
      exact this
  · simp only [if_neg c1] at hf
    exact absurd hf c1
end JGG
