/-! both machines: a try begins -/
/-- what is known within a try, and at its handler -/
def TrsS (Sf S S' Sh : gSt) : Prop := rn S' = rn S ∧ (∀ k, k < rn S → S'.1 73 k = S.1 73 k) ∧ arn S' = arn S + 1 ∧ S'.1 85 (arn S) = -1 ∧ (∀ q, q < arn S → S'.1 85 q = S.1 85 q) ∧ S'.1 75 0 = S.1 75 0 ∧ S'.1 76 0 = S.1 76 0 ∧ S'.1 87 0 = S.1 87 0 ∧ (∀ u s, vaP S' u s → vaP S u s ∧ S.1 80 u = S'.1 80 u ∧ slV Sf S u = slV Sf S' u ∧ (fi (S'.1 82 0) s = true → fi (S.1 82 0) s = true)) ∧ lvc Sh (arn Sh) = lvc S (arn S) ∧ ∀ u s, vaP Sh u s → vaP S u s ∧ S.1 80 u = Sh.1 80 u ∧ slV Sf S u = slV Sf Sh u ∧ (fi (Sh.1 82 0) s = true → fi (S.1 82 0) s = true)
section SS8
variable {M0 T0 Sf S Sh : gSt} {G G' : GH} {D D' : Nat → (Nat → AV) × Nat} {nf d d' nb nb' mk mk' na na' ng ng' e bs ph bt rb tb ie en hb k q u s i j c t h P W Dp n m it n1 : Nat} {rg rg' : Nat → Nat} {ρ : Nat → Nat} {va : Nat → AV} {M M' T T' : gSt} {v : AV} {x a b cc ee op y z w : Int32} {st s0 st' : List Int32} {ov o0 ov' : List AV} {hs : List HD} {F : FRM} {Fr : Nat → FRM} {f : Nat → Int32} {jj : T5} {r1 : Int32} {l1 : Int64} {tg : List Nat}
variable {S' : gSt} {hx hy : Nat}
theorem VaO.le (h : VaO Sf G nb rg na ng ρ va M T e bs S) (hv : ∀ u s, vaP S' u s → vaP S u s ∧ S.1 80 u = S'.1 80 u ∧ slV Sf S u = slV Sf S' u ∧ (fi (S'.1 82 0) s = true → fi (S.1 82 0) s = true)) : VaO Sf G nb rg na ng ρ va M T e bs S' := fun u j hu => by
  obtain ⟨v1, v2, v3, v4⟩ := hv u j hu
  obtain ⟨z1, z2, z3, z4⟩ := h u j v1
  rw [← v2, ← v3]
  exact ⟨z1, z2, z3, fun hf hp => z4 (v4 hf) hp⟩
theorem lvc_ex (h2 : ∀ q, q < arn S → S'.1 85 q = S.1 85 q) (h3 : S'.1 75 0 = S.1 75 0) : ∀ q, q ≤ arn S → lvc S' q = lvc S q := by
  intro q
  induction q with
  | zero => intro _; rfl
  | succ q ih =>
    intro hq
    rw [lvc, lvc, ih (by omega), h2 q (by omega), show isLv S' (S.1 85 q) = isLv S (S.1 85 q) by unfold isLv; rw [h3]]
theorem RgO.ex (h : RgO rg na ng en ρ M T e S rb ie) (r1 : rn S' = rn S) (r2 : ∀ k, k < rn S → S'.1 73 k = S.1 73 k) (a1 : arn S' = arn S + 1) (a2 : S'.1 85 (arn S) = -1) (a3 : ∀ q, q < arn S → S'.1 85 q = S.1 85 q) (a4 : S'.1 75 0 = S.1 75 0) (a5 : S'.1 76 0 = S.1 76 0) : RgO rg na ng en ρ M T e S' rb ie := by
  obtain ⟨p1, q1, q2, q3, q4⟩ := h
  have el : ∀ x, isLv S' x = isLv S x := fun x => by unfold isLv; rw [a4]
  have lt : ∀ q c, q < arn S' → S'.1 85 q = nI c → c < 12 → q < arn S := fun q c hq hc c12 => by
    refine Decidable.byContradiction fun w => ?_
    have : q = arn S := by omega
    rw [this, a2] at hc
    exact nI_neg1 (by omega) hc
  refine ⟨p1, fun q c hq hc c4 c12 => ?_, fun q q' c c' hqq hq' hc hc' c4 c12 c4' c12' => ?_, fun c c1 c3 hl => q3 c c1 c3 (by rw [← el]; exact hl), fun r s r1 r3 s1 s3 hf => q4 r s r1 r3 s1 s3 (by rw [← a5]; exact hf)⟩
  · have ql := lt q c hq hc c12
    rw [a3 q ql] at hc
    obtain ⟨z1, z2, z3⟩ := q1 q c ql hc c4 c12
    refine ⟨z1, z2, ?_⟩
    unfold RgQx at z3 ⊢
    rw [el, lvc_ex a3 a4 q (by omega)]
    by_cases z : isLv S (nI c) = 0
    · rw [if_pos z] at z3 ⊢
      exact z3
    · rw [if_neg z] at z3 ⊢
      refine ⟨z3.1, z3.2.1, fun w hw => z3.2.2 w ?_⟩
      rcases hw with y | ⟨j, j1, j2, j3, j4⟩
      · exact Or.inl y
      · exact Or.inr ⟨j, by omega, j2, by rw [← r2 _ (by omega)]; exact j3, j4⟩
  · have l1 := lt q' c' hq' hc' c12'
    rw [a3 q' l1] at hc'
    rw [a3 q (by omega)] at hc
    exact q2 q q' c c' hqq l1 hc hc' c4 c12 c4' c12'
end SS8
