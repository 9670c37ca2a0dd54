/-! what STEPS keep of REGIONS and of what lies around */
-/
/-- REGIONS, what lies around, numbers caught: kept */
-/
def FP (S S' : gSt) : Prop := ∀ k, k = 74 ∨ k = 75 ∨ k = 76 ∨ k = 86 ∨ k = 87 → S'.1 k = S.1 k
def FR (S S' : gSt) : Prop := FV S S' ∧ S'.1 76 0 = S.1 76 0 ∧ S'.1 87 0 = S.1 87 0 ∧ (∃ g g', S.1 86 0 = nI g ∧ S'.1 86 0 = nI g' ∧ g ≤ g' ∧ g' ≤ 8 ∧ ∀ c, c < 4 + g → S'.1 74 c = S.1 74 c) ∧ (∀ c, c < 32 → fi (S'.1 75 0) c = true → fi (S.1 75 0) c = true) ∧ (∀ c, c < 4 → fi (S'.1 75 0) c = fi (S.1 75 0) c) ∧ (∀ q0 q, q < q0 → q0 < arn S → S.1 85 q0 < 0 → isLv S' (S.1 85 q) = isLv S (S.1 85 q))
section SUA
variable {S S' S1 S2 S3 S4 : gSt} {X : Lx} {it e e' v g n k i q c en m : Nat} {ta tb t : Tr} {x op pl st kq lq rc : Int32} {nm : Int64} {A B : StF}
theorem isLv_ex (hc : c < 32) (h : fi (S'.1 75 0) c = fi (S.1 75 0) c) : isLv S' (nI c) = isLv S (nI c) := by
  unfold isLv
  have e1 := fi_sr (x := S.1 75 0) hc
  have e2 := fi_sr (x := S'.1 75 0) hc
  by_cases w : fi (S.1 75 0) c = true
  · rw [if_pos (e2.mpr (h.trans w)), if_pos (e1.mpr w)]
  · rw [if_neg (fun z => w (h.symm.trans (e2.mp z))), if_neg (fun z => w (e1.mp z))]
theorem isLv_m1 : isLv S (-1) = isLv S (nI 31) := by
  unfold isLv
  rw [show (-1 : Int32) &&& 31 = nI 31 &&& 31 by decide]
theorem FP.rf : FP S S := fun _ _ => rfl
theorem FP.on (h : FP S S1) (h2 : FP S1 S2) : FP S S2 := fun k hk => (h2 k hk).trans (h k hk)
theorem FP.fe (h : FE S S') : FP S S' := fun k hk => h.1 k (by unfold fE; omega)
theorem FP.fl {p q : Int32} : FP S (flT S p q) := fun k hk => flT_o (by omega) (by omega)
theorem FP.sp : FP S (spS S) := fun k hk => by
  unfold spS
  rw [sI_ne (by omega), sI_ne (by omega), sI_ne (by omega)]
theorem FP.gv {sl t y has : Int32} : FP S (gvS S sl t y has) := fun k hk => by
  unfold gvS
  rw [sI_ne (by omega), sI_ne (by omega)]
theorem FP.kw : FP S (kwS S x) := fun k hk => by
  unfold kwS
  split
  · rfl
  · rw [sI_ne (by omega)]
theorem FP.see {sl t : Int32} : FP S (seS S nm sl t) := fun k hk => see_o (by omega) (by omega) (by omega)
theorem fp_st (hk : k = 20 ∨ k = 23 ∨ k = 24 ∨ k = 25 ∨ k = 29 ∨ k = 30) : FP S (stS X it (tD k i e' ta tb) x op 0 S) := by
  have cf := fun t S => FP.fe (chk_fe (X := X) t 0 0 S)
  rw [stS_n]
  unfold stN
  rcases hk with w | w | w | w | w | w <;> subst w
  · show FP S (vaE (vaF X ta (vaM X S i).2 (vaM X S i).1) (xN X (i + 1)) (nI (xP X (i + 1))) (nI e') (vaM X S i).1 (vaR X ta (vaM X S i).2).1 (if isZ ta = true then 0 else 1))
    have f1 : FP S (vaM X S i).2 := FP.fe ((FE.wr (by omega) : FE S (sI S 92 0 (S.1 92 0 + 1))).tr (FE.me _ _ _))
    have f2 : FP (vaM X S i).2 (vaF X ta (vaM X S i).2 (vaM X S i).1) := by
      unfold vaF vaR
      split
      · exact FP.rf
      · exact (cf ta _).on (FP.fe FE.ft)
    refine (f1.on f2).on ?_
    unfold vaE
    repeat' split
    all_goals first | exact FP.rf | exact FP.fl | exact FP.see | exact FP.see.on FP.gv
  · show FP S (rtC X ta i it S).2
    unfold rtC
    have f0 : FP S (rtO S (isZ ta) it (nI (xP X i))) := by
      unfold rtO
      repeat' split
      all_goals first | exact FP.rf | exact FP.fl
    repeat' split
    · exact FP.sp
    · exact ((cf ta S).on (FP.fe FE.ft)).on FP.sp
    · exact f0
  · exact (cf ta S).on (FP.fe FE.ni)
  · exact ((cf ta S).on (FP.fe FE.ni)).on FP.sp
  · show FP S (seC X ta tb S)
    unfold seC
    repeat' split
    · refine (cf tb S).on ?_
      unfold svS
      split
      · exact (FP.fe FE.ft).on FP.gv
      · exact FP.fe FE.ft
    · exact (cf tb S).on FP.fl
    · exact (cf tb S).on ((cf ta _).on ((FP.fe FE.td).on (FP.fe FE.ft)))
    · exact (cf tb S).on FP.fl
    · exact cf tb S
  · exact cf ta S
theorem FR.of (h : FV S S') (hp : FP S S') (hg : S.1 86 0 = nI g) (g8 : g ≤ 8) : FR S S' := by
  have e75 := hp 75 (by omega)
  refine ⟨h, by rw [hp 76 (by omega)], by rw [hp 87 (by omega)], ⟨g, g, hg, by rw [hp 86 (by omega)]; exact hg, Nat.le_refl _, g8, fun c _ => by rw [hp 74 (by omega)]⟩, fun c _ w => by rw [e75] at w; exact w, fun c _ => by rw [e75], fun q0 q _ _ _ => by unfold isLv; rw [e75]⟩
theorem FR.on (h : FR S S1) (h2 : FR S1 S2) : FR S S2 := by
  obtain ⟨a1, a2, a3, ⟨g, g', a4, a5, a6, a7, a8⟩, a9, a10, a11⟩ := h
  obtain ⟨b1, b2, b3, ⟨k, k', b4, b5, b6, b7, b8⟩, b9, b10, b11⟩ := h2
  have ek : k = g' := nI_inj (by omega) (by omega) (by rw [← b4, a5])
  have ea : arn S1 = arn S := by unfold arn; rw [a1.2.2.1]
  refine ⟨a1.on b1, b2.trans a2, b3.trans a3, ⟨g, k', a4, b5, by omega, b7, fun c hc => (b8 c (by omega)).trans (a8 c hc)⟩, fun c hc w => a9 c hc (b9 c hc w), fun c hc => (b10 c hc).trans (a10 c hc), fun q0 q hq hq0 hn => ?_⟩
  have e1 := a1.2.2.2.1 q0 hq0
  have e2 := a1.2.2.2.1 q (by omega)
  have := b11 q0 q hq (by omega) (by rw [e1]; exact hn)
  rw [e2] at this
  rw [this]
  exact a11 q0 q hq hq0 hn
/-- REGIONS in sight stay in order */
-/
theorem RwS.fr (h : RwS en S) (hf : FR S S') : RwS en S' := by
  obtain ⟨m, g, n, cd, po, ⟨a1, a2, a3, a4, a5, a6, a7, a8⟩, b1, b2, b3, b4, b5, b6, b7, b8⟩ := h
  obtain ⟨⟨c1, c2, c3, c4, c5, c6, c7⟩, d1, d2, ⟨k, k', d3, d4, d5, d6, d7⟩, d8, d9, d10⟩ := hf
  have ek : k = g := nI_inj (by omega) (by omega) (by rw [← d3, a5])
  have er : rn S' = rn S := by unfold rn; rw [c1]
  have ea : arn S = n := by unfold arn; rw [a7, nc (by omega)]
  refine ⟨m, k', n, cd, po, ⟨a1, a2, by rw [er]; exact a3, by rw [c1]; exact a4, d4, d6, by rw [c3]; exact a7, a8⟩, fun k hk => by rw [c2 k (by omega)]; exact b1 k hk, fun j hj => ?_, b3, fun j hj => ⟨(b4 j hj).1, by rw [c4 _ (by have := (b4 j hj).1; omega)]; exact (b4 j hj).2⟩, b5, fun q hq => ?_, fun c hc w => b7 c hc (d8 c hc w), by rw [d9 0 (by omega)]; exact b8⟩
  · obtain ⟨z1, z2, z3, z4⟩ := b2 j hj
    exact ⟨by rw [c2 _ (by omega)]; exact z1, z2, by omega, by rw [d7 _ (by omega)]; exact z4⟩
  · rw [c4 q (by omega)]
    exact b6 q hq
theorem PfS.fr {Sh : gSt} (h : PfS Sh S) (hf : FR S S') (hl : arn Sh < arn S) (hn : S.1 85 (arn Sh) < 0) : PfS Sh S' := by
  obtain ⟨p1, p2, p3, p4, p5, p6, a, b, p7, p8, p9⟩ := h
  obtain ⟨⟨c1, c2, c3, c4, c5, c6, c7⟩, d1, d2, _, d8, d9, d10⟩ := hf
  have er : rn S' = rn S := by unfold rn; rw [c1]
  have ea : arn S' = arn S := by unfold arn; rw [c3]
  refine ⟨by omega, fun k hk => by rw [c2 k (by omega)]; exact p2 k hk, by omega, fun q hq => ?_, fun c hc => ?_, by rw [d1]; exact p6, a, b, p7, by rw [d2]; exact p8, p9⟩
  · rw [c4 q (by omega), d10 (arn Sh) q hq hl hn]
    exact p4 q hq
  · rw [p5 c hc]
    exact (isLv_ex (by omega) (d9 c (by omega))).symm
/-- handlers of what lies around */
-/
def HsP (S : gSt) (hs : List HD) : Prop := ∀ h, h ∈ hs → PfS h.2.2 S ∧ arn h.2.2 < arn S ∧ S.1 85 (arn h.2.2) = -1
theorem HsP.fr {hs : List HD} (h : HsP S hs) (hf : FR S S') : HsP S' hs := fun x hx => by
  obtain ⟨h1, h2, h3⟩ := h x hx
  have ea : arn S' = arn S := by unfold arn; rw [hf.1.2.2.1]
  exact ⟨h1.fr hf h2 (by rw [h3]; decide), by omega, by rw [hf.1.2.2.2.1 _ h2]; exact h3⟩
/-- ways that part: LIVE as it was before */
-/
theorem FR.lv (h : FR S S1) (h2 : FV S1 S2) (e76 : S2.1 76 = S1.1 76) (e87 : S2.1 87 0 = S1.1 87 0) (e86 : S2.1 86 = S1.1 86) (e74 : S2.1 74 = S1.1 74) (e75 : S2.1 75 0 = S.1 75 0) : FR S S2 := by
  obtain ⟨a1, a2, a3, ⟨g, g', a4, a5, a6, a7, a8⟩, a9, a10, a11⟩ := h
  exact ⟨a1.on h2, by rw [e76]; exact a2, by rw [e87]; exact a3, ⟨g, g', a4, by rw [e86]; exact a5, a6, a7, fun c hc => by rw [e74]; exact a8 c hc⟩, fun c _ w => by rw [e75] at w; exact w, fun c _ => by rw [e75], fun q0 q _ _ _ => by unfold isLv; rw [e75]⟩
theorem FR.lw (h : FR S S1) (h2 : FV S1 S2) (h3 : FR S S3) (e76 : S2.1 76 = S1.1 76) (e87 : S2.1 87 0 = S1.1 87 0) (e86 : S2.1 86 = S1.1 86) (e74 : S2.1 74 = S1.1 74) (e75 : S2.1 75 0 = S3.1 75 0) : FR S S2 := by
  obtain ⟨a1, a2, a3, ⟨g, g', a4, a5, a6, a7, a8⟩, _⟩ := h
  obtain ⟨_, _, _, _, a9, a10, a11⟩ := h3
  exact ⟨a1.on h2, by rw [e76]; exact a2, by rw [e87]; exact a3, ⟨g, g', a4, by rw [e86]; exact a5, a6, a7, fun c hc => by rw [e74]; exact a8 c hc⟩, fun c hc w => a9 c hc (by rw [← e75]; exact w), fun c hc => by rw [e75]; exact a10 c hc, fun q0 q h1 h2 h3 => by rw [← a11 q0 q h1 h2 h3]; unfold isLv; rw [e75]⟩
/-- ways that meet */
-/
theorem FR.mt (h : FR S S1) (h3 : FR S S3) (e3 : S3.1 75 0 = lq) : FR S (mtS S1 st kq lq rc pl) := by
  have hv : FV S1 (mtS S1 st kq lq rc pl) := FV.fo FO.mt
  have ne : ∀ k, k = 76 ∨ k = 86 ∨ k = 74 ∨ k = 87 → (mtS S1 st kq lq rc pl).1 k = S1.1 k := fun k hk => by
    unfold mtS rsS
    repeat' split
    · rw [sI_ne (by omega), sI_ne (by omega)]
    · rw [sI_ne (by omega), sI_ne (by omega), flT_o (by omega) (by omega)]
    · rw [sI_ne (by omega), sI_ne (by omega), sI_ne (by omega), sI_ne (by omega)]
    · rfl
  have e75 : (mtS S1 st kq lq rc pl).1 75 0 = S1.1 75 0 ∨ (mtS S1 st kq lq rc pl).1 75 0 = lq := by
    unfold mtS rsS
    repeat' split
    · exact Or.inl (by rw [sI_ne (by omega), sI_ne (by omega)])
    · exact Or.inl (by rw [sI_ne (by omega), sI_ne (by omega), flT_o (by omega) (by omega)])
    · exact Or.inr (by rw [sI_ne (by omega), sI_v])
    · exact Or.inl rfl
  rcases e75 with w | w
  · exact FR.lw h hv h (ne 76 (by omega)) (by rw [ne 87 (by omega)]) (ne 86 (by omega)) (ne 74 (by omega)) w
  · exact FR.lw h hv h3 (ne 76 (by omega)) (by rw [ne 87 (by omega)]) (ne 86 (by omega)) (ne 74 (by omega)) (by rw [w, e3])
end SUA
