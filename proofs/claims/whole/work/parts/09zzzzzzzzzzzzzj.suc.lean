/-! every STEP keeps REGIONS and what lies around: all of them */
-/
section SUC
variable {S S' S1 S2 S3 S4 Sf : gSt} {X : Lx} {it e e' v g n k i q c en m j a b v' g' N : Nat} {ta tb t : Tr} {x oq pl st kq lq rc ys no : Int32} {nm : Int64} {A B : StF} {cd po : Nat → Nat}
theorem FV.kw : FV S (kwS S x) := FV.fo FO.kw
theorem SI.gg (h : SI S v g n) : S.1 86 0 = nI g ∧ g ≤ 8 := ⟨h.2.2.2.1, h.2.2.2.2.1⟩
theorem SI.ar (h : SI S v g n) (hn : n < 1000) : arn S = n := by
  unfold arn
  rw [h.2.2.2.2.2.2.1, nc (by omega)]
theorem FR.rf (h : SI S v g n) : FR S S := FR.of FV.rf FP.rf h.gg.1 h.gg.2
theorem FR.fp (h : SI S v g n) (h1 : FV S S') (h2 : FP S S') : FR S S' := FR.of h1 h2 h.gg.1 h.gg.2
theorem FE.fr (h : SI S v g n) (hf : FE S S') : FR S S' := FR.fp h (FV.fe hf) (FP.fe hf)
theorem FR.cnd (h : SI S v g n) : FR S (cdC X ta S) := by
  refine FR.fp h ?_ ?_
  · unfold cdC cnT
    split
    · exact (FV.fe (chk_fe ta 0 0 S)).on (FV.fo FO.fl)
    · exact FV.fe (chk_fe ta 0 0 S)
  · unfold cdC cnT
    split
    · exact (FP.fe (chk_fe ta 0 0 S)).on FP.fl
    · exact FP.fe (chk_fe ta 0 0 S)
theorem FR.wo (h : SI S v g n) : FR S (whO X tb S) := by
  refine FR.fp h ?_ ?_
  · unfold whO
    split
    · exact FV.rf
    · exact FV.fo (FO.wr (by omega))
  · unfold whO
    split
    · exact FP.rf
    · exact fun k hk => sI_ne (by omega)
/-- LIVE as it was: states that are gone back to */
-/
theorem rs_fr (h : FR S S1) : FR S (rsS S1 st kq (S.1 75 0) rc) := by
  have ne : ∀ k, k ≠ 81 → k ≠ 82 → k ≠ 75 → k ≠ 83 → (rsS S1 st kq (S.1 75 0) rc).1 k = S1.1 k := fun k k1 k2 k3 k4 => by
    unfold rsS
    rw [sI_ne k4, sI_ne k3, sI_ne k2, sI_ne k1]
  exact FR.lv h (FV.fo FO.rs) (ne 76 (by omega) (by omega) (by omega) (by omega)) (by rw [ne 87 (by omega) (by omega) (by omega) (by omega)]) (ne 86 (by omega) (by omega) (by omega) (by omega)) (ne 74 (by omega) (by omega) (by omega) (by omega)) (by unfold rsS; rw [sI_ne (by omega), sI_v])
theorem kw_fr (h : FR S S1) : FR S (kwS S1 x) := by
  have p := FP.kw (S := S1) (x := x)
  obtain ⟨g, g', a1, a2, a3, a4, a5⟩ := h.2.2.2.1
  exact h.on (FR.of FV.kw p a2 a4)
theorem FR.pr (hS : SI S v g n) (hA : FR (kwS S ys) (A 0 0 0 (kwS S ys))) (hB : isZ tb = true ∨ FR (prE A ys no S) (B 0 0 0 (prE A ys no S))) : FR S (prC X A B (isZ tb) ys no j S) := by
  have f0 : FR S (kwS S ys) := kw_fr (FR.rf hS)
  have f2 : FR S (A 0 0 0 (kwS S ys)) := f0.on hA
  have f3 : FR S (prE A ys no S) := by
    unfold prE
    exact kw_fr (rs_fr f2)
  unfold prC
  dsimp only
  by_cases c : (A 0 0 0 (kwS S ys)).1 7 0 = 0
  · rw [if_pos c]
    have f4 : FR S (if isZ tb = true then prE A ys no S else B 0 0 0 (prE A ys no S)) := by
      split
      · exact f3
      · next w => exact f3.on (hB.resolve_left w)
    unfold prE at f4
    revert f4
    generalize (if isZ tb = true then kwS (rsS (A 0 0 0 (kwS S ys)) (S.1 81 0) (S.1 82 0) (S.1 75 0) (S.1 83 0)) no else B 0 0 0 (kwS (rsS (A 0 0 0 (kwS S ys)) (S.1 81 0) (S.1 82 0) (S.1 75 0) (S.1 83 0)) no)) = T4
    intro f4
    split
    · exact f4.mt f2 rfl
    · exact f4
  · rw [if_neg c]
    exact f2
theorem FR.cs (h : RwS en S) (hC : Cst S) (hS : SI S v g n) (h0 : S.1 7 0 = 0) (h1 : (csC X i S).1 7 0 = 0) : FR S (csC X i S) := by
  obtain ⟨c, q0, e1, c4, c12, hq, hq2, lv, ab, uq, e2, _⟩ := cs_ok h hC h0 h1
  rw [e2]
  have o : ∀ k, k ≠ 75 → (dlS S (nI c)).1 k = S.1 k := fun k hk => by unfold dlS; rw [sI_ne hk]
  have o75 : ∀ b, b < 32 → fi ((dlS S (nI c)).1 75 0) b = if b = c then false else fi (S.1 75 0) b := fun b hb => by
    unfold dlS
    rw [sI_v, fi_of (by omega) hb]
  refine ⟨FV.fo FO.dl, by rw [o 76 (by omega)], by rw [o 87 (by omega)], ⟨g, g, hS.gg.1, by rw [o 86 (by omega)]; exact hS.gg.1, Nat.le_refl _, hS.gg.2, fun c _ => by rw [o 74 (by omega)]⟩, fun b hb w => ?_, fun b hb => ?_, fun q1 q h2 h3 h4 => ?_⟩
  · rw [o75 b hb] at w
    split at w
    · cases w
    · exact w
  · rw [o75 b (by omega), if_neg (by omega)]
  · have l1 : q1 ≤ q0 := by
      refine Decidable.byContradiction fun w => ?_
      exact (ab q1 (by omega) h3).1 h4
    obtain ⟨_, g', n', _, _, e86, e84, _, g8, _, _, _, b6, _⟩ := h.mg
    have en' : arn S = n' := by unfold arn; rw [e84, nc (by omega)]
    rcases b6 q (by omega) with w | ⟨b, w, b4, b12⟩
    · rw [w, isLv_m1, isLv_m1]
      exact isLv_ex (by omega) (by rw [o75 31 (by omega), if_neg (by omega)])
    · have ne : ¬ b = c := fun z => by
        have := uq q (by omega) (by rw [w, z])
        omega
      rw [w]
      have f := o75 b (by omega)
      rw [if_neg ne] at f
      exact isLv_ex (by omega) f
/-- STEPS of every kind */
-/
theorem FR.rw (h : RwS en S) : FR S S := by
  obtain ⟨_, g, _, _, _, e, _, _, g8, _⟩ := h.mg
  exact FR.of FV.rf FP.rf e g8
theorem FR.bl (h : FR S S1) : FR S (sI S1 77 0 (S.1 77 0)) := by
  have o : ∀ k, k ≠ 77 → (sI S1 77 0 (S.1 77 0)).1 k = S1.1 k := fun k hk => sI_ne hk
  obtain ⟨⟨c1, c2, c3, c4, c5, c6, c7⟩, h2⟩ := h
  have ev : vn (sI S1 77 0 (S.1 77 0)) = vn S := by unfold vn; rw [sI_v]
  refine ⟨⟨by rw [o 71 (by omega)]; exact c1, by rw [o 73 (by omega)]; exact c2, by rw [o 84 (by omega)]; exact c3, by rw [o 85 (by omega)]; exact c4, by omega, fun u hu => by rw [o 79 (by omega), o 80 (by omega)]; exact c6 u hu, by rw [o 12 (by omega)]; exact c7⟩, ?_⟩
  unfold isLv at h2 ⊢
  rw [o 76 (by omega), o 87 (by omega), o 86 (by omega), o 74 (by omega), o 75 (by omega)]
  exact h2
theorem blk_of (h : Ws X t 2 a b v g v' g') : lsVA t = false := by
  unfold Ws at h
  split at h
  · unfold WsN at h
    rw [if_pos rfl] at h
    obtain ⟨rfl, _⟩ := h
    rfl
  · exact absurd h.1 (by omega)
  · exact h.elim
theorem FR.wh (hC : FR S S1) (hB : FR S1 S2) : FR S (kwS (rsS (if S2.1 7 0 = 0 ∧ ¬ S2.1 83 0 = 0 ∧ ¬ S2.1 75 0 = S1.1 75 0 then flT S2 8 pl else S2) st kq (S1.1 75 0) rc) x) := by
  refine hC.on (kw_fr (rs_fr ?_))
  split
  · obtain ⟨_, g', _, a2, _, a4, _⟩ := hB.2.2.2.1
    exact hB.on (FR.of (FV.fo FO.fl) FP.fl a2 a4)
  · exact hB
theorem FR.tri (hn : arn S < 40) (h84 : S.1 84 0 = nI (arn S)) (hA : FR (trO S) S2) : FR S (sI S2 84 0 (S2.1 84 0 - 1)) := by
  have o : ∀ k, k ≠ 84 → k ≠ 85 → (trO S).1 k = S.1 k := fun k k1 k2 => by unfold trO; rw [sI_ne k1, sI_ne k2]
  have o85 : ∀ q, (trO S).1 85 q = if q = arn S then -1 else S.1 85 q := fun q => by
    unfold trO
    rw [sI_ne (by omega), rdI]
    by_cases c : q = arn S
    · rw [if_pos ⟨rfl, c⟩, if_pos c]
    · rw [if_neg (fun w => c w.2), if_neg c]
  have o84 : (trO S).1 84 0 = nI (arn S + 1) := by unfold trO; rw [sI_v]
  have ea : arn (trO S) = arn S + 1 := by unfold arn at hn ⊢; rw [o84]; unfold arn; rw [nc (by omega)]
  have p : ∀ k, k ≠ 84 → (sI S2 84 0 (S2.1 84 0 - 1)).1 k = S2.1 k := fun k hk => sI_ne hk
  obtain ⟨⟨c1, c2, c3, c4, c5, c6, c7⟩, d1, d2, ⟨g, g', d3, d4, d5, d6, d7⟩, d8, d9, d10⟩ := hA
  have er : rn (trO S) = rn S := by unfold rn; rw [o 71 (by omega) (by omega)]
  have ev : vn (trO S) = vn S := by unfold vn; rw [o 77 (by omega) (by omega)]
  rw [o 71 (by omega) (by omega)] at c1
  rw [er, o 73 (by omega) (by omega)] at c2
  rw [ev] at c5 c6
  rw [o 79 (by omega) (by omega), o 80 (by omega) (by omega)] at c6
  rw [o 12 (by omega) (by omega)] at c7
  rw [o 76 (by omega) (by omega)] at d1
  rw [o 87 (by omega) (by omega)] at d2
  rw [o 86 (by omega) (by omega)] at d3
  rw [o 74 (by omega) (by omega)] at d7
  rw [o 75 (by omega) (by omega)] at d8 d9
  have ev2 : vn (sI S2 84 0 (S2.1 84 0 - 1)) = vn S2 := by unfold vn; rw [p 77 (by omega)]
  refine ⟨⟨by rw [p 71 (by omega)]; exact c1, by rw [p 73 (by omega)]; exact c2, by rw [sI_v, c3, o84, nI_sub]; exact h84.symm, fun q hq => ?_, by omega, fun u hu => by rw [p 79 (by omega), p 80 (by omega)]; exact c6 u hu, by rw [p 12 (by omega)]; exact c7⟩, by rw [p 76 (by omega)]; exact d1, by rw [p 87 (by omega)]; exact d2, ⟨g, g', d3, by rw [p 86 (by omega)]; exact d4, d5, d6, by rw [p 74 (by omega)]; exact d7⟩, by rw [p 75 (by omega)]; exact d8, by rw [p 75 (by omega)]; exact d9, fun q0 q h1 h2 h3 => ?_⟩
  · rw [p 85 (by omega), c4 q (by omega), o85, if_neg (by omega)]
  · have := d10 (arn S) q (by omega) (by omega) (by rw [o85, if_pos rfl]; decide)
    rw [o85, if_neg (by omega)] at this
    unfold isLv at this ⊢
    rw [o 75 (by omega) (by omega)] at this
    rw [p 75 (by omega)]
    exact this
theorem FR.rg (hR : RwS en S) (hg : S.1 86 0 = nI g) (g8 : g < 8) (hn : arn S < 40) (hA : FR (rgO S nm) S2) : FR S (rgL S2 (4 + S.1 86 0)) := by
  obtain ⟨m0, g0, n0, e1, e2, e3, e4, e5, e6, e7, e8, e9, e10, e11⟩ := hR.mg
  have eg : g0 = g := nI_inj (by omega) (by omega) (by rw [← e3, hg])
  subst eg
  have ea : arn S = n0 := by unfold arn; rw [e4, nc (by omega)]
  obtain ⟨r1, r2, r3, r4, r5, r6, r7, r8, r9, r10, r11⟩ := rgO_w (nm := nm) hg (by omega) (by omega) (by omega)
  have q4 : (4 : Int32) + S.1 86 0 = nI (4 + g0) := by rw [hg]; exact (Int32.ofNat_add _ _).symm
  rw [q4]
  unfold rgL dlS
  have p : ∀ k, k ≠ 84 → k ≠ 71 → k ≠ 75 → (sI (sI (sI S2 84 0 (S2.1 84 0 - 1)) 71 0 (S2.1 71 0 - 1)) 75 0 ((sI (sI S2 84 0 (S2.1 84 0 - 1)) 71 0 (S2.1 71 0 - 1)).1 75 0 &&& ((1 : Int32) <<< (nI (4 + g0) &&& 31) ^^^ (-1)))).1 k = S2.1 k := fun k k1 k2 k3 => by rw [sI_ne k3, sI_ne k2, sI_ne k1]
  have p75 : ∀ c, c < 32 → fi ((sI (sI (sI S2 84 0 (S2.1 84 0 - 1)) 71 0 (S2.1 71 0 - 1)) 75 0 ((sI (sI S2 84 0 (S2.1 84 0 - 1)) 71 0 (S2.1 71 0 - 1)).1 75 0 &&& ((1 : Int32) <<< (nI (4 + g0) &&& 31) ^^^ (-1)))).1 75 0) c = if c = 4 + g0 then false else fi (S2.1 75 0) c := fun c hc => by
    rw [sI_v, fi_of (by omega) hc, sI_ne (by omega), sI_ne (by omega)]
  obtain ⟨⟨c1, c2, c3, c4, c5, c6, c7⟩, d1, d2, ⟨k, k', d3, d4, d5, d6, d7⟩, d8, d9, d10⟩ := hA
  have ek : k = g0 + 1 := nI_inj (by omega) (by omega) (by rw [← d3, r1])
  rw [r3] at c1
  rw [r5] at c3
  rw [r4] at c4 d10
  rw [r2] at c2
  have ev : vn (rgO S nm) = vn S := by unfold vn; rw [r10 77 (by omega) (by omega) (by omega) (by omega) (by omega) (by omega) (by omega)]
  rw [ev] at c5 c6
  rw [r10 79 (by omega) (by omega) (by omega) (by omega) (by omega) (by omega) (by omega), r10 80 (by omega) (by omega) (by omega) (by omega) (by omega) (by omega) (by omega), r11 78 (by omega)] at c6
  rw [r10 12 (by omega) (by omega) (by omega) (by omega) (by omega) (by omega) (by omega)] at c7
  rw [r10 76 (by omega) (by omega) (by omega) (by omega) (by omega) (by omega) (by omega)] at d1
  rw [r10 87 (by omega) (by omega) (by omega) (by omega) (by omega) (by omega) (by omega)] at d2
  refine ⟨⟨?_, fun i hi => ?_, ?_, fun q hq => ?_, ?_, fun u hu => ?_, ?_⟩, ?_, ?_, ⟨g0, k', hg, ?_, by omega, d6, fun c hc => ?_⟩, fun c hc w => ?_, fun c hc => ?_, fun q0 q h1 h2 h3 => ?_⟩
  · rw [sI_ne (by omega), sI_v, c1, nI_sub, e2, e1]
  · rw [p 73 (by omega) (by omega) (by omega), c2 i (by omega), r6, if_neg (by omega)]
  · rw [sI_ne (by omega), sI_ne (by omega), sI_v, c3, nI_sub, e4, ea]
  · rw [p 85 (by omega) (by omega) (by omega), c4 q (by omega), r7, if_neg (by omega)]
  · unfold vn at c5 ⊢
    rw [p 77 (by omega) (by omega) (by omega)]
    exact c5
  · rw [p 79 (by omega) (by omega) (by omega), p 80 (by omega) (by omega) (by omega)]
    exact c6 u hu
  · rw [p 12 (by omega) (by omega) (by omega)]; exact c7
  · rw [p 76 (by omega) (by omega) (by omega)]; exact d1
  · rw [p 87 (by omega) (by omega) (by omega)]; exact d2
  · rw [p 86 (by omega) (by omega) (by omega)]; exact d4
  · rw [p 74 (by omega) (by omega) (by omega), d7 c (by omega), r8, if_neg (by omega)]
  · rw [p75 c hc] at w
    by_cases z : c = 4 + g0
    · rw [if_pos z] at w; cases w
    · rw [if_neg z] at w
      have := d8 c hc w
      rw [r9 c hc, if_neg z] at this
      exact this
  · rw [p75 c (by omega), if_neg (by omega), d9 c hc, r9 c (by omega), if_neg (by omega)]
  · have := d10 q0 q h1 (by omega) (by rw [r7, if_neg (by omega)]; exact h3)
    rw [r7, if_neg (by omega)] at this
    rcases e10 q (by omega) with w | ⟨b, w, b4, b12⟩
    · rw [w, isLv_m1, isLv_m1] at this
      rw [w, isLv_m1, isLv_m1, ← isLv_ex (S := S) (S' := rgO S nm) (c := 31) (by omega) (by rw [r9 31 (by omega), if_neg (by omega)]), ← this]
      exact isLv_ex (by omega) (by rw [p75 31 (by omega), if_neg (by omega)])
    · rw [w] at this
      rw [w, ← isLv_ex (S := S) (S' := rgO S nm) (c := b) (by omega) (by rw [r9 b (by omega), if_neg (by omega)]), ← this]
      exact isLv_ex (by omega) (by rw [p75 b (by omega), if_neg (by omega)])
def F7 (S S' : gSt) : Prop := S'.1 77 = S.1 77
theorem F7.on (h : F7 S S1) (h2 : F7 S1 S2) : F7 S S2 := Eq.trans h2 h
theorem F7.fe (h : FE S S') : F7 S S' := h.1 77 (by unfold fE; omega)
theorem F7.fo (h : FO S S') : F7 S S' := h.1 77 (by unfold fO; omega)
theorem f7_st (hk : k = 23 ∨ k = 24 ∨ k = 25 ∨ k = 29 ∨ k = 30) : F7 S (stS X it (tD k i e' ta tb) x oq 0 S) := by
  have cf := fun t S => F7.fe (chk_fe (X := X) t 0 0 S)
  rw [stS_n]
  unfold stN
  rcases hk with w | w | w | w | w <;> subst w
  · show F7 S (rtC X ta i it S).2
    unfold rtC
    have f0 : F7 S (rtO S (isZ ta) it (nI (xP X i))) := by
      unfold rtO
      repeat' split
      all_goals first | exact rfl | exact F7.fo FO.fl
    repeat' split
    · exact F7.fo FO.sp
    · exact ((cf ta S).on (F7.fe FE.ft)).on (F7.fo FO.sp)
    · exact f0
  · exact (cf ta S).on (F7.fe FE.ni)
  · exact ((cf ta S).on (F7.fe FE.ni)).on (F7.fo FO.sp)
  · show F7 S (seC X ta tb S)
    unfold seC
    repeat' split
    · refine (cf tb S).on ?_
      unfold svS
      split
      · exact (F7.fe FE.ft).on (F7.fo FO.gv)
      · exact F7.fe FE.ft
    · exact (cf tb S).on (F7.fo FO.fl)
    · exact (cf tb S).on ((cf ta _).on ((F7.fe FE.td).on (F7.fe FE.ft)))
    · exact (cf tb S).on (F7.fo FO.fl)
    · exact cf tb S
  · exact cf ta S
theorem cd_77 : (cdC X ta S).1 77 0 = S.1 77 0 := by
  have h : F7 S (cdC X ta S) := by
    unfold cdC cnT
    split
    · exact (F7.fe (chk_fe ta 0 0 S)).on (F7.fo FO.fl)
    · exact F7.fe (chk_fe ta 0 0 S)
  rw [h]
theorem par_of (h : Ws X t 3 a b v g v' g') : lsVA t = false := by
  unfold Ws at h
  split at h
  · unfold WsN at h
    rw [if_neg (by omega), if_neg (by omega), if_pos rfl] at h
    obtain ⟨rfl, _⟩ := h
    rfl
  · exact absurd h.1 (by omega)
  · exact h.elim
theorem bd_of (h : Ws X t 2 a b v g v' g') : 1 ≤ bdT t := by
  unfold Ws at h
  split at h
  · next k i e ta tb =>
    unfold WsN at h
    rw [if_pos rfl] at h
    obtain ⟨rfl, _⟩ := h
    show 1 ≤ bdT ta + 1
    omega
  · exact absurd h.1 (by omega)
  · exact h.elim
theorem RwS.w87 (h : RwS en S) : RwS en (sI S 87 0 x) := by
  unfold RwS rn at h ⊢
  simp only [sI_ne (T := S) (g := 87) (i := 0) (v := x) (g' := 71) (by omega), sI_ne (T := S) (g := 87) (i := 0) (v := x) (g' := 73) (by omega), sI_ne (T := S) (g := 87) (i := 0) (v := x) (g' := 74) (by omega), sI_ne (T := S) (g := 87) (i := 0) (v := x) (g' := 75) (by omega), sI_ne (T := S) (g := 87) (i := 0) (v := x) (g' := 84) (by omega), sI_ne (T := S) (g := 87) (i := 0) (v := x) (g' := 85) (by omega), sI_ne (T := S) (g := 87) (i := 0) (v := x) (g' := 86) (by omega)]
  exact h
theorem FR.ct (h : FR S S1) (h2 : FR (sI S1 87 0 (S1.1 87 0 + 1)) S2) : FR S (sI S2 87 0 (S2.1 87 0 - 1)) := by
  have o : ∀ k, k ≠ 87 → (sI S1 87 0 (S1.1 87 0 + 1)).1 k = S1.1 k := fun k hk => sI_ne hk
  have p : ∀ k, k ≠ 87 → (sI S2 87 0 (S2.1 87 0 - 1)).1 k = S2.1 k := fun k hk => sI_ne hk
  have hv : FV S1 (sI S2 87 0 (S2.1 87 0 - 1)) := (FV.w87 (x := S1.1 87 0 + 1)).on (h2.1.on FV.w87)
  obtain ⟨_, d1, d2, ⟨k, k', d3, d4, d5, d6, d7⟩, d8, d9, d10⟩ := h2
  refine h.on ⟨hv, ?_, ?_, ⟨k, k', ?_, ?_, d5, d6, ?_⟩, ?_, ?_, ?_⟩
  · rw [p 76 (by omega), d1, o 76 (by omega)]
  · rw [sI_v, d2, sI_v, Int32.add_sub_cancel]
  · rw [← o 86 (by omega)]; exact d3
  · rw [p 86 (by omega)]; exact d4
  · rw [p 74 (by omega), ← o 74 (by omega)]; exact d7
  · rw [p 75 (by omega), ← o 75 (by omega)]; exact d8
  · rw [p 75 (by omega), ← o 75 (by omega)]; exact d9
  · have ea : arn (sI S1 87 0 (S1.1 87 0 + 1)) = arn S1 := by unfold arn; rw [o 84 (by omega)]
    rw [ea, o 85 (by omega)] at d10
    unfold isLv at d10 ⊢
    rw [p 75 (by omega), ← o 75 (by omega)]
    exact d10
theorem fr_all (hf0 : Sf.1 7 0 = 0) (t : Tr) : ∀ (ys no : Int32) (j : Nat) (S : gSt), Gk X it Sf t ys no j S → RwS en S → FR S (stS X it t ys no j S) ∧ (lsVA t = false → (stS X it t ys no j S).1 77 0 = S.1 77 0) := by
  induction t using Tr_ind with
  | hz t hz =>
    intro ys no j S h hR
    rw [stS_z hz]
    exact ⟨FR.rw hR, fun _ => rfl⟩
  | h k i e ta tb ihA ihB =>
    intro ys no j S h hR
    rw [Gk_n] at h
    obtain ⟨⟨m, a, b, v, g, v', g', n, N, hw, hb, hN, hn, hS⟩, h0, hF, gk⟩ := h
    have h1 := hF.ok hf0
    have C := hS.1
    have hW := hw
    rw [Ws_n] at hw
    rw [bdT_n] at hN
    rw [lsVA_n]
    unfold WsN at hw
    unfold GkN at gk
    have hv100 : vn S < 100 := by have := C.2.2.2.2.2.2.1; omega
    have hn41 : n ≤ 41 := by
      have : bL m ≤ 41 := by unfold bL; split <;> omega
      omega
    have arE : arn S = n := hS.ar (by omega)
    have cf := fun t S => chk_fe (X := X) t 0 0 S
    by_cases m2 : m = 2
    · rw [if_pos m2] at hw
      obtain ⟨rfl, hw, hib⟩ := hw
      rw [if_neg (by decide), if_neg (by decide), if_neg (by decide), if_neg (by decide), if_neg (by decide), if_neg (by decide), if_neg (by decide), if_neg (by decide), if_neg (by decide), if_pos (by decide)] at gk
      have e0 : stS X it (tD 31 i e ta tb) ys no j S = sI (stS X it ta 0 0 0 S) 77 0 (S.1 77 0) := rfl
      rw [e0]
      exact ⟨FR.bl (ihA 0 0 0 S gk hR).1, fun _ => by rw [sI_v]⟩
    rw [if_neg m2] at hw
    by_cases m1 : m = 1
    · rw [if_pos m1] at hw
      obtain ⟨rfl, c, v1, g1, hwa, hwb⟩ := hw
      rw [if_neg (by decide), if_neg (by decide), if_neg (by decide), if_neg (by decide), if_neg (by decide), if_neg (by decide), if_neg (by decide), if_neg (by decide), if_neg (by decide), if_neg (by decide), if_pos (by decide)] at gk
      have e0 : stS X it (tD 11 i e ta tb) ys no j S = if S.1 7 0 = 0 then stS X it tb 0 0 0 (stS X it ta 0 0 0 S) else S := rfl
      rw [e0, if_pos h0]
      have f1 := (ihA 0 0 0 S gk.1 hR).1
      exact ⟨f1.on (ihB 0 0 0 _ gk.2 (hR.fr f1)).1, fun w => absurd w (by decide)⟩
    rw [if_neg m1] at hw
    by_cases m3 : m = 3
    · rw [if_pos m3] at hw
      obtain ⟨rfl, c, v1, g1, hwa, hwb⟩ := hw
      rw [if_neg (by decide), if_neg (by decide), if_pos (by decide)] at gk
      obtain ⟨ga, gb⟩ := gk
      have e0 : stS X it (tD 12 i e ta tb) ys no j S = prC X (stS X it ta) (stS X it tb) (isZ tb) ys no j S := rfl
      have fk : FR S (kwS S ys) := kw_fr (FR.rf hS)
      obtain ⟨fa, va⟩ := ihA 0 0 0 _ ga (hR.fr fk)
      have va := va (blk_of hwa)
      have fp : FR S (prE (stS X it ta) ys no S) := by unfold prE; exact kw_fr (rs_fr (fk.on fa))
      have o77 : ∀ S3 : gSt, ∀ q1 q2 q3 q4 q5 : Int32, (mtS S3 q1 q2 q3 q4 q5).1 77 = S3.1 77 := fun S3 q1 q2 q3 q4 q5 => (FO.mt (T := S3)).1 77 (by unfold fO; omega)
      have k77 : (kwS S ys).1 77 0 = S.1 77 0 := by rw [(FO.kw (T := S)).1 77 (by unfold fO; omega)]
      have p77 : (prE (stS X it ta) ys no S).1 77 0 = S.1 77 0 := by
        unfold prE
        rw [(FO.kw).1 77 (by unfold fO; omega), (FO.rs).1 77 (by unfold fO; omega), va, k77]
      rw [e0]
      by_cases z : isZ tb = true
      · refine ⟨FR.pr hS fa (Or.inl z), fun _ => ?_⟩
        unfold prC
        dsimp only
        rw [z]
        simp only [if_true]
        split
        · split
          · rw [o77]
            exact p77
          · exact p77
        · rw [va, k77]
      · have gb := gb.resolve_left z
        obtain ⟨fb, vb⟩ := ihB 0 0 0 _ gb (hR.fr fp)
        rw [if_neg z] at hwb
        have vb := vb (blk_of hwb)
        refine ⟨FR.pr hS fa (Or.inr fb), fun _ => ?_⟩
        have z' : isZ tb = false := by cases hz : isZ tb with | true => exact absurd hz z | false => rfl
        unfold prC
        dsimp only
        rw [z']
        simp only [if_neg (show ¬ (false = true) by decide)]
        unfold prE at vb p77
        split
        · split
          · rw [o77, vb, p77]
          · rw [vb, p77]
        · rw [va, k77]
    rw [if_neg m3] at hw
    have st1 : ∀ k, k = 23 ∨ k = 24 ∨ k = 25 ∨ k = 29 ∨ k = 30 → j = j → FR S (stS X it (tD k i e ta tb) ys no 0 S) ∧ (stS X it (tD k i e ta tb) ys no 0 S).1 77 0 = S.1 77 0 := fun k hk _ => ⟨FR.fp hS (fv_st (by omega) hv100) (fp_st (by omega)), by rw [f7_st hk]⟩
    by_cases k20 : k = 20
    · subst k20
      exact ⟨FR.fp hS (fv_st (x := ys) (op := no) (Or.inl rfl) hv100) (fp_st (x := ys) (op := no) (Or.inl rfl)), fun w => absurd w (by decide)⟩
    rw [if_neg k20] at hw gk
    by_cases k21 : k = 21
    · subst k21
      rw [if_pos rfl] at hw gk
      obtain ⟨_, c, _, hwb⟩ := hw
      obtain ⟨_, gb⟩ := gk
      have e0 : stS X it (tD 21 i e ta tb) ys no j S = if (cdC X ta S).1 7 0 = 0 then stS X it tb (akY X ta (cdC X ta S)) (akN X ta (cdC X ta S)) i (cdC X ta S) else cdC X ta S := rfl
      have fc := FR.cnd (X := X) (ta := ta) hS
      obtain ⟨fb, vb⟩ := ihB _ _ i _ gb (hR.fr fc)
      have vb := vb (par_of hwb)
      have c77 : (cdC X ta S).1 77 0 = S.1 77 0 := cd_77
      rw [e0]
      split
      · exact ⟨fc.on fb, fun _ => by rw [vb, c77]⟩
      · exact ⟨fc, fun _ => c77⟩
    rw [if_neg k21] at hw gk
    by_cases k12 : k = 12
    · subst k12
      exact absurd hw (by simp)
    rw [if_neg k12] at gk
    by_cases k22 : k = 22
    · subst k22
      rw [if_pos rfl] at hw gk
      obtain ⟨_, c, _, hwb⟩ := hw
      obtain ⟨ge, gb⟩ := gk
      have fo := FR.wo (X := X) (tb := tb) hS
      have e0 : stS X it (tD 22 i e ta tb) ys no j S = whC X (stS X it tb) ta tb i S := rfl
      have fc : FR S (cdC X ta (whO X tb S)) := by
        refine fo.on ?_
        obtain ⟨_, g', _, a2, _, a4, _⟩ := fo.2.2.2.1
        refine FR.of ?_ ?_ a2 a4
        · unfold cdC cnT
          split
          · exact (FV.fe (cf ta _)).on (FV.fo FO.fl)
          · exact FV.fe (cf ta _)
        · unfold cdC cnT
          split
          · exact (FP.fe (cf ta _)).on FP.fl
          · exact FP.fe (cf ta _)
      have o77 : (whO X tb S).1 77 0 = S.1 77 0 := by
        unfold whO
        split
        · rfl
        · rw [sI_ne (by omega)]
      have c77 : (cdC X ta (whO X tb S)).1 77 0 = S.1 77 0 := by rw [cd_77, o77]
      obtain ⟨fb, vb⟩ := ihB 0 0 0 _ gb (hR.fr (kw_fr fc))
      have vb := vb (blk_of hwb)
      have fb2 : FR (cdC X ta (whO X tb S)) (stS X it tb 0 0 0 (kwS (cdC X ta (whO X tb S)) (akY X ta (cdC X ta (whO X tb S))))) := by
        obtain ⟨_, g', _, a2, _, a4, _⟩ := fc.2.2.2.1
        exact (FR.of FV.kw FP.kw a2 a4).on fb
      rw [e0]
      unfold whC
      dsimp only
      split
      · refine ⟨FR.wh fc fb2, fun _ => ?_⟩
        rw [(FO.kw).1 77 (by unfold fO; omega), (FO.rs).1 77 (by unfold fO; omega)]
        split
        · rw [flT_o (by omega) (by omega), vb, (FO.kw).1 77 (by unfold fO; omega), c77]
        · rw [vb, (FO.kw).1 77 (by unfold fO; omega), c77]
      · exact ⟨fc, fun _ => c77⟩
    rw [if_neg k22] at hw gk
    by_cases k23 : k = 23
    · subst k23
      exact ⟨(st1 23 (by omega) rfl).1, fun _ => (st1 23 (by omega) rfl).2⟩
    rw [if_neg k23] at hw gk
    by_cases k24 : k = 24
    · subst k24
      exact ⟨(st1 24 (by omega) rfl).1, fun _ => (st1 24 (by omega) rfl).2⟩
    by_cases k25 : k = 25
    · subst k25
      exact ⟨(st1 25 (by omega) rfl).1, fun _ => (st1 25 (by omega) rfl).2⟩
    by_cases k30 : k = 30
    · subst k30
      exact ⟨(st1 30 (by omega) rfl).1, fun _ => (st1 30 (by omega) rfl).2⟩
    rw [if_neg (by omega), if_neg k30] at hw
    rw [if_neg (by omega)] at gk
    by_cases k29 : k = 29
    · subst k29
      exact ⟨(st1 29 (by omega) rfl).1, fun _ => (st1 29 (by omega) rfl).2⟩
    rw [if_neg k29] at hw gk
    by_cases k26 : k = 26
    · subst k26
      rw [if_pos rfl] at hw gk
      obtain ⟨_, g8, hwa⟩ := hw
      have bd := bd_of hwa
      have hN2 : N + bdT ta ≤ 40 := by
        have e1 : (if (26 : Nat) = 31 then bdT ta + 1 else if (26 : Nat) = 11 ∨ (26 : Nat) = 12 ∨ (26 : Nat) = 28 then max (bdT ta) (bdT tb) else if (26 : Nat) = 21 ∨ (26 : Nat) = 22 then bdT tb else if (26 : Nat) = 26 then bdT ta else 0) = bdT ta := rfl
        rw [e1] at hN
        unfold bL at hN
        rw [if_neg m2] at hN
        exact hN
      have e0 : stS X it (tD 26 i e ta tb) ys no j S = if 0 ≤ rgQ X S (i + 1) then flT S 2 (nI (xP X (i + 1))) else rgL (stS X it ta 0 0 0 (rgO S (xN X (i + 1)))) (4 + S.1 86 0) := rfl
      rw [e0] at h1 ⊢
      by_cases z : 0 ≤ rgQ X S (i + 1)
      · rw [if_pos z] at h1
        exact absurd h1 (flT_bad (by decide))
      rw [if_neg z]
      obtain ⟨fa, va⟩ := ihA 0 0 0 _ gk (hR.opn hS.gg.1 g8 (by omega))
      have va := va (blk_of hwa)
      refine ⟨FR.rg hR hS.gg.1 g8 (by omega) fa, fun _ => ?_⟩
      obtain ⟨m0, g0, n0, q1, q2, q3, q4, q5, q6, q7, q8, _⟩ := hR.mg
      unfold rgL dlS
      rw [sI_ne (by omega), sI_ne (by omega), sI_ne (by omega), va, (rgO_w (nm := xN X (i + 1)) hS.gg.1 hS.gg.2 (by omega) (by omega)).2.2.2.2.2.2.2.2.2.1 77 (by omega) (by omega) (by omega) (by omega) (by omega) (by omega) (by omega)]
    rw [if_neg k26] at hw gk
    by_cases k27 : k = 27
    · subst k27
      have e0 : stS X it (tD 27 i e ta tb) ys no j S = csC X i S := rfl
      rw [e0] at h1 ⊢
      refine ⟨FR.cs hR C.2.2 hS h0 h1, fun _ => ?_⟩
      obtain ⟨c, q0, _, _, _, _, _, _, _, _, e2, _⟩ := cs_ok hR C.2.2 h0 h1
      rw [e2]
      unfold dlS
      rw [sI_ne (by omega)]
    rw [if_neg k27] at hw
    by_cases k28 : k = 28
    · subst k28
      rw [if_pos rfl] at hw gk
      obtain ⟨_, c, v1, g1, hwa, hwb⟩ := hw
      obtain ⟨ga, gb⟩ := gk
      have bd := bd_of hwa
      have hN2 : N + bdT ta ≤ 40 := by
        have e1 : (if (28 : Nat) = 31 then bdT ta + 1 else if (28 : Nat) = 11 ∨ (28 : Nat) = 12 ∨ (28 : Nat) = 28 then max (bdT ta) (bdT tb) else if (28 : Nat) = 21 ∨ (28 : Nat) = 22 then bdT tb else if (28 : Nat) = 26 then bdT ta else 0) = max (bdT ta) (bdT tb) := rfl
        rw [e1] at hN
        unfold bL at hN
        rw [if_neg m2] at hN
        have := Nat.le_max_left (bdT ta) (bdT tb)
        omega
      have e0 : stS X it (tD 28 i e ta tb) ys no j S = trC X (stS X it ta) (stS X it tb) ta i S := rfl
      have h84 : S.1 84 0 = nI (arn S) := by rw [arE]; exact hS.2.2.2.2.2.2.1
      obtain ⟨fa, va⟩ := ihA 0 0 0 _ ga (hR.tr (by omega))
      have va := va (blk_of hwa)
      have t77 : (trO S).1 77 0 = S.1 77 0 := by unfold trO; rw [sI_ne (by omega), sI_ne (by omega)]
      have f3 := FR.tri (by omega) h84 fa
      have f4 : FR S (rsS (sI (stS X it ta 0 0 0 (trO S)) 84 0 ((stS X it ta 0 0 0 (trO S)).1 84 0 - 1)) (S.1 81 0) (if S.1 83 0 = 0 then S.1 82 0 else S.1 82 0 &&& (gvA X ta S 0 ^^^ (-1))) (S.1 75 0) (S.1 83 0)) := rs_fr f3
      unfold trM at gb
      dsimp only at gb
      obtain ⟨fb, vb⟩ := ihB 0 0 0 _ gb (RwS.w87 (hR.fr f4))
      have vb := vb (blk_of hwb)
      have f7 := FR.ct f4 fb
      rw [e0]
      unfold trC
      dsimp only
      have q77 : (sI (stS X it ta 0 0 0 (trO S)) 84 0 ((stS X it ta 0 0 0 (trO S)).1 84 0 - 1)).1 77 0 = S.1 77 0 := by rw [sI_ne (by omega), va, t77]
      have b77 : (stS X it tb 0 0 0 (sI (rsS (sI (stS X it ta 0 0 0 (trO S)) 84 0 ((stS X it ta 0 0 0 (trO S)).1 84 0 - 1)) (S.1 81 0) (if S.1 83 0 = 0 then S.1 82 0 else S.1 82 0 &&& (gvA X ta S 0 ^^^ (-1))) (S.1 75 0) (S.1 83 0)) 87 0 ((rsS (sI (stS X it ta 0 0 0 (trO S)) 84 0 ((stS X it ta 0 0 0 (trO S)).1 84 0 - 1)) (S.1 81 0) (if S.1 83 0 = 0 then S.1 82 0 else S.1 82 0 &&& (gvA X ta S 0 ^^^ (-1))) (S.1 75 0) (S.1 83 0)).1 87 0 + 1))).1 77 0 = S.1 77 0 := by
        rw [vb, sI_ne (by omega), (FO.rs).1 77 (by unfold fO; omega), q77]
      generalize (if S.1 83 0 = 0 then S.1 82 0 else S.1 82 0 &&& (gvA X ta S 0 ^^^ (-1))) = kz at f4 fb vb f7 b77 ⊢
      split
      · split
        · refine ⟨f7.mt f3 rfl, fun _ => ?_⟩
          rw [(FO.mt).1 77 (by unfold fO; omega), sI_ne (by omega), b77]
        · refine ⟨f7, fun _ => ?_⟩
          rw [sI_ne (by omega), b77]
      · exact ⟨f3, fun _ => q77⟩
    rw [if_neg k28] at hw
    exact hw.elim
end SUC
