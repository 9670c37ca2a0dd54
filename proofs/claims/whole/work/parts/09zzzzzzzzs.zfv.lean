/-! what STEPS keep of what is in sight; ways that part and meet: both sides -/
def FV (S S' : gSt) : Prop := S'.1 71 0 = S.1 71 0 ∧ (∀ k, k < rn S → S'.1 73 k = S.1 73 k) ∧ S'.1 84 0 = S.1 84 0 ∧ (∀ q, q < arn S → S'.1 85 q = S.1 85 q) ∧ vn S ≤ vn S' ∧ (∀ u, u < vn S → S'.1 79 u = S.1 79 u ∧ S'.1 80 u = S.1 80 u ∧ S'.2 78 u = S.2 78 u) ∧ S'.1 12 = S.1 12
section ZSA
variable {S S' S1 S2 T T' T1 T2 T3 : gSt} {X : Lx} {nf d it e v g n dd v' g' k i e' u c m lo hi a b n0 y z p q r j s f yv yx yr lr : Nat} {ta tb tr : Tr} {pl x op cc t x4 st kw lv rc st2 kw2 lv2 rc2 : Int32} {R : RgR} {nm w w2 : Int64} {bo : Bool} {zz : T5}
theorem FV.rf : FV S S := ⟨rfl, fun _ _ => rfl, rfl, fun _ _ => rfl, Nat.le_refl _, fun _ _ => ⟨rfl, rfl, rfl⟩, rfl⟩
theorem FV.on (h : FV S S1) (h2 : FV S1 S') : FV S S' := by
  obtain ⟨a1, a2, a3, a4, a5, a6, a7⟩ := h
  obtain ⟨b1, b2, b3, b4, b5, b6, b7⟩ := h2
  have e1 : rn S1 = rn S := by unfold rn; rw [a1]
  have e2 : arn S1 = arn S := by unfold arn; rw [a3]
  exact ⟨b1.trans a1, fun k hk => (b2 k (by omega)).trans (a2 k hk), b3.trans a3, fun q hq => (b4 q (by omega)).trans (a4 q hq), by omega, fun u hu => ⟨(b6 u (by omega)).1.trans (a6 u hu).1, (b6 u (by omega)).2.1.trans (a6 u hu).2.1, (b6 u (by omega)).2.2.trans (a6 u hu).2.2⟩, b7.trans a7⟩
theorem FV.fe (h : FE S S') : FV S S' := ⟨by rw [h.1 71 (by omega)], fun k _ => by rw [h.1 73 (by omega)], by rw [h.1 84 (by omega)], fun q _ => by rw [h.1 85 (by omega)], by unfold vn; rw [h.1 77 (by omega)]; exact Nat.le_refl _, fun u _ => ⟨by rw [h.1 79 (by omega)], by rw [h.1 80 (by omega)], by rw [h.2.1]⟩, h.1 12 (by omega)⟩
theorem FV.fo (h : FO S S') : FV S S' := ⟨by rw [h.1 71 (by unfold fO; omega)], fun k _ => by rw [h.1 73 (by unfold fO; omega)], by rw [h.1 84 (by unfold fO; omega)], fun q _ => by rw [h.1 85 (by unfold fO; omega)], by unfold vn; rw [h.1 77 (by unfold fO; omega)]; exact Nat.le_refl _, fun u _ => ⟨by rw [h.1 79 (by unfold fO; omega)], by rw [h.1 80 (by unfold fO; omega)], by rw [h.2]⟩, h.1 12 (by unfold fO; omega)⟩
theorem FV.see (hv : vn S < 100) : FV S (seS S nm x t) := by
  have evn : vn (seS S nm x t) = vn S + 1 := by
    have : (seS S nm x t).1 77 0 = nI (vn S + 1) := see_77
    unfold vn at this ⊢
    rw [this]
    exact nc (by unfold vn at hv; omega)
  exact ⟨by rw [see_o (by omega) (by omega) (by omega)], fun k _ => by rw [see_o (by omega) (by omega) (by omega)], by rw [see_o (by omega) (by omega) (by omega)], fun k _ => by rw [see_o (by omega) (by omega) (by omega)], by omega, fun u hu => ⟨by rw [see_79, if_neg (by omega)], by rw [see_80, if_neg (by omega)], by rw [see_78, if_neg (by omega)]⟩, see_o (by omega) (by omega) (by omega)⟩
/-- STEPS without BLOCKS -/
theorem fv_st (hk : k = 20 ∨ k = 23 ∨ k = 24 ∨ k = 25 ∨ k = 27 ∨ k = 29 ∨ k = 30) (hv : vn S < 100) : FV S (stS X it (tD k i e' ta tb) x op 0 S) := by
  have cf := fun t S => FV.fe (chk_fe (X := X) t 0 0 S)
  rw [stS_n]
  unfold stN
  rcases hk with w | w | w | w | w | w | w <;> subst w
  · show FV S (vaE (vaF X ta (vaM X S i).2 (vaM X S i).1) (xN X (i + 1)) (nI (xP X (i + 1))) (nI e') (vaM X S i).1 (vaR X ta (vaM X S i).2).1 (if isZ ta = true then 0 else 1))
    have f1 : FV S (vaM X S i).2 := FV.fe ((FE.wr (by omega) : FE S (sI S 92 0 (S.1 92 0 + 1))).tr (FE.me _ _ _))
    have f2 : FV (vaM X S i).2 (vaF X ta (vaM X S i).2 (vaM X S i).1) := by
      unfold vaF vaR
      split
      · exact FV.rf
      · exact (cf ta _).on (FV.fe FE.ft)
    have f3 := f1.on f2
    refine f3.on ?_
    have evn : vn (vaF X ta (vaM X S i).2 (vaM X S i).1) = vn S := by
      unfold vaF vaR
      split
      · exact ((FE.wr (by omega) : FE S (sI S 92 0 (S.1 92 0 + 1))).tr (FE.me _ _ _)).evn
      · exact (((FE.wr (by omega) : FE S (sI S 92 0 (S.1 92 0 + 1))).tr (FE.me 6 _ (i + 3))).tr ((chk_fe ta 0 0 _).tr FE.ft)).evn
    unfold vaE
    repeat' split
    all_goals first | exact FV.rf | exact FV.fo FO.fl | exact FV.see (by omega) | exact (FV.see (by omega)).on (FV.fo FO.gv)
  · show FV S (rtC X ta i it S).2
    unfold rtC
    have f0 : FV S (rtO S (isZ ta) it (nI (xP X i))) := by
      unfold rtO
      repeat' split
      all_goals first | exact FV.rf | exact FV.fo FO.fl
    repeat' split
    · exact FV.fo FO.sp
    · exact ((cf ta S).on (FV.fe FE.ft)).on (FV.fo FO.sp)
    · exact f0
  · exact (cf ta S).on (FV.fe FE.ni)
  · exact ((cf ta S).on (FV.fe FE.ni)).on (FV.fo FO.sp)
  · show FV S (csC X i S)
    unfold csC
    have f0 : FV S (srS X S (i + 1)) := FV.fe FE.sr
    repeat' split
    · exact f0.on (FV.fo FO.fl)
    · exact f0.on ((FV.fo (FO.ar _ _)).on (FV.fo FO.dl))
    · exact f0
  · show FV S (seC X ta tb S)
    unfold seC
    repeat' split
    · refine (cf tb S).on ?_
      unfold svS
      split
      · exact (FV.fe FE.ft).on (FV.fo FO.gv)
      · exact FV.fe FE.ft
    · exact (cf tb S).on (FV.fo FO.fl)
    · exact (cf tb S).on ((cf ta _).on ((FV.fe FE.td).on (FV.fe FE.ft)))
    · exact (cf tb S).on (FV.fo FO.fl)
    · exact cf tb S
  · exact cf ta S
/-- what was known there, told of where one is -/
theorem FwR.rs (h : FwR e S T st kw lv rc w) (hV : VaS e v S T) (hV' : VaS e v' S' T') (hF : TyF S S' T T') (fv : FV S S') (hn : vn S' = vn S) (hR : RgE e S' = RgE e S) : FwR e S' T' st kw lv rc w := by
  unfold FwR at h ⊢
  rw [hR, hn]
  obtain ⟨h1, h2, h3, h4, h5⟩ := h
  refine ⟨h1, h2, h3, h4, fun u s hu hs h20 => ?_⟩
  obtain ⟨e79, e80, _⟩ := fv.2.2.2.2.2.1 u hu
  rw [e79] at hs
  obtain ⟨b1, b2⟩ := h5 u s hu hs h20
  refine ⟨b1, fun y y1 y2 y3 => ?_⟩
  obtain ⟨_, _, _, ya, a1, a2, a3⟩ := hV.at hu
  obtain ⟨_, _, _, yb, c1, c2, c3⟩ := hV'.at (show u < vn S' by omega)
  have eb : y = yb := nI_inj (by omega) (by omega) (by rw [← y1, ← c1])
  subst eb
  rw [e80] at c3
  have l1 := (TyR.mo hF (fun _ _ z => z) _ _ _ a3).lo
  have l2 := c3.lo
  have k4 : kdC T' ya = 4 := l1.mp (l2.mpr y3)
  rw [a3.kd hF] at k4
  exact b2 ya a1 a2 k4
theorem RgE.fv (fv : FV S S') : RgE e S' = RgE e S := by
  funext c m
  have er : rn S' = rn S := by unfold rn; rw [fv.1]
  unfold RgE
  rw [er]
  refine propext ⟨fun h => ?_, fun h => ?_⟩
  · rcases h with h | ⟨j, h1, h2, h3, h4⟩
    · exact Or.inl h
    · exact Or.inr ⟨j, h1, h2, by rw [← fv.2.1 _ h1]; exact h3, h4⟩
  · rcases h with h | ⟨j, h1, h2, h3, h4⟩
    · exact Or.inl h
    · exact Or.inr ⟨j, h1, h2, by rw [fv.2.1 _ h1]; exact h3, h4⟩
/-- what was known is known again -/
theorem SrR.rs (h : SrR X it e v g n S T) (hf : FwR e S T st kw lv rc w) (hrc : rc = 0 ∨ rc = 1) : SrR X it e v g n (rsS S st kw lv rc) (sJ T 77 0 w) ∧ TyF S (rsS S st kw lv rc) T (sJ T 77 0 w) := by
  have hV := h.1.2.2.2.2.2.2.2.2.1
  have o : ∀ k, ¬ (k = 75 ∨ k = 81 ∨ k = 82 ∨ k = 83) → (rsS S st kw lv rc).1 k = S.1 k := fun k hk => by unfold rsS; rw [sI_ne (by omega), sI_ne (by omega), sI_ne (by omega), sI_ne (by omega)]
  have e83 : (rsS S st kw lv rc).1 83 0 = rc := by unfold rsS; rw [sI_v]
  have e75 : (rsS S st kw lv rc).1 75 0 = lv := by unfold rsS; rw [sI_ne (by omega), sI_v]
  have e82 : (rsS S st kw lv rc).1 82 0 = kw := by unfold rsS; rw [sI_ne (by omega), sI_ne (by omega), sI_v]
  have e81 : (rsS S st kw lv rc).1 81 0 = st := by unfold rsS; rw [sI_ne (by omega), sI_ne (by omega), sI_ne (by omega), sI_v]
  obtain ⟨a1, a2, a3, a4, a5⟩ := h.1.fo (S' := rsS S st kw lv rc) (T' := sJ T 77 0 w) o rfl (by rw [e83]; exact hrc) rfl (fun p j hp => by rw [rdJ, if_neg (fun z => hp z.1)])
  refine ⟨⟨a1, ?_⟩, a4⟩
  rw [flw_w, e81, e82, e75, e83]
  exact hf.mo hV a4 a2 (by rw [o 77 (by omega)]) (o 79 (by omega)) (fun _ => rfl)
/-- two ways meet; st and the others: what is known on the first -/
theorem SrR.mt (h : SrR X it e v g n S T) (hf : FwR e S T st kw lv rc w) (hrc : rc = 0 ∨ rc = 1) : ((fb w 52 = true ∧ fb (flw T) 52 = true → samB w (flw T) 40 52) ∧ SrR X it e v g n (mtS S st kw lv rc pl) (sJ T 77 0 (meW w (flw T))) ∧ TyF S (mtS S st kw lv rc pl) T (sJ T 77 0 (meW w (flw T)))) ∨ (¬ (fb w 52 = true ∧ fb (flw T) 52 = true → samB w (flw T) 40 52) ∧ (mtS S st kw lv rc pl).1 7 0 = 8 ∧ (mtS S st kw lv rc pl).1 8 0 = pl) := by
  have hV := h.1.2.2.2.2.2.2.2.2.1
  have h83 := h.1.2.2.1.2.2.1
  have q1 : fb w 52 = true ↔ ¬ rc = 0 := by
    have := hf.2.2.2.1.1
    cases hq : fb w 52 with
    | true => exact ⟨(fun _ w => by rw [this.mp w] at hq; cases hq), fun _ => rfl⟩
    | false => exact ⟨(fun w => by cases w), fun w => absurd (this.mpr hq) w⟩
  have q2 : fb (flw T) 52 = true ↔ ¬ S.1 83 0 = 0 := by
    have := h.2.2.2.2.1.1
    cases hq : fb (flw T) 52 with
    | true => exact ⟨(fun _ w => by rw [this.mp w] at hq; cases hq), fun _ => rfl⟩
    | false => exact ⟨(fun w => by cases w), fun w => absurd (this.mpr hq) w⟩
  have q1f : fb w 52 = false ↔ rc = 0 := by
    cases hq : fb w 52 with
    | true => exact ⟨(fun w => by cases w), fun w => absurd w (q1.mp hq)⟩
    | false => exact ⟨fun _ => hf.2.2.2.1.1.mpr hq, fun _ => rfl⟩
  unfold mtS meW
  by_cases c : ¬ S.1 83 0 = 0 ∧ ¬ rc = 0
  · have cb : fb w 52 = true ∧ fb (flw T) 52 = true := ⟨q1.mpr c.2, q2.mpr c.1⟩
    rw [if_pos c, if_pos cb]
    have sm := hf.same h.2
    by_cases cl : S.1 75 0 = lv
    · left
      rw [if_pos cl]
      refine ⟨fun _ => sm.mp cl, ?_⟩
      have o : ∀ k, k ≠ 81 → k ≠ 82 → (sI (sI S 81 0 (S.1 81 0 &&& st)) 82 0 (S.1 82 0 &&& kw)).1 k = S.1 k := fun k a b => by rw [sI_ne (by omega), sI_ne (by omega)]
      obtain ⟨a1, a2, a3, a4, a5⟩ := h.1.fo (S' := sI (sI S 81 0 (S.1 81 0 &&& st)) 82 0 (S.1 82 0 &&& kw)) (T' := sJ T 77 0 (w &&& flw T)) (fun k hk => o k (by omega) (by omega)) rfl (by rw [o 83 (by omega) (by omega)]; exact h83) rfl (fun p j hp => by rw [rdJ, if_neg (fun z => hp z.1)])
      refine ⟨⟨a1, ?_⟩, a4⟩
      rw [flw_w, sI_v, sI_ne (g' := 81) (by omega), sI_v, o 75 (by omega) (by omega), o 83 (by omega) (by omega)]
      exact (hf.meet h.2 hV.vs.1 c.2 c.1 cl).mo hV a4 a2 (by rw [o 77 (by omega) (by omega)]) (o 79 (by omega) (by omega)) (fun _ => rfl)
    · right
      rw [if_neg cl]
      refine ⟨fun w => cl (sm.mpr (w cb)), ?_⟩
      rw [sI_ne (by omega), sI_ne (by omega), sI_ne (by omega), sI_ne (by omega)]
      unfold flT failS
      rw [if_pos h.1.2.2.2.1, sI_ne (by omega), sI_v, sI_v]
      exact ⟨rfl, rfl⟩
  · left
    have cb : ¬ (fb w 52 = true ∧ fb (flw T) 52 = true) := fun q => c ⟨q2.mp q.2, q1.mp q.1⟩
    rw [if_neg c, if_neg cb]
    refine ⟨fun q => absurd q cb, ?_⟩
    by_cases c2 : ¬ rc = 0 ∨ S.1 83 0 = 0
    · rw [if_pos c2, if_neg (fun q => by
        rcases c2 with u | u
        · exact u (q1f.mp q.1)
        · exact q2.mp q.2 u)]
      exact h.rs hf hrc
    · have r0 : rc = 0 := Decidable.byContradiction fun q => c2 (Or.inl q)
      have r1 : ¬ S.1 83 0 = 0 := fun q => c2 (Or.inr q)
      rw [if_neg c2, if_pos ⟨q1f.mpr r0, q2.mpr r1⟩]
      obtain ⟨a1, a2, a3, a4, a5⟩ := h.1.fo (S' := S) (T' := sJ T 77 0 (flw T)) (fun _ _ => rfl) rfl h83 rfl (fun p j hp => by rw [rdJ, if_neg (fun z => hp z.1)])
      refine ⟨⟨a1, ?_⟩, a4⟩
      rw [flw_w]
      exact h.2.mo hV a4 rfl rfl rfl (fun _ => rfl)
end ZSA
