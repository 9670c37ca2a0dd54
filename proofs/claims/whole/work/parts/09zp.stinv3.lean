/-! STEPS with BLOCKS in them keep what holds; all STEPS do -/
section SIX
variable {T T' T'' T1 T2 : gSt} {X : Lx} {k i j e it v g n v' g' v1 g1 N lo hi b a r : Nat} {p q s c : Int32} {nm : Int64} {A B : StF} {ta tb : Tr}
theorem nI_sub {k : Nat} : nI (k + 1) - 1 = nI k := by
  rw [Int32.sub_eq_add_neg]
  exact nI_sub1
/-- one way in less -/
theorem si_out (h : SI T v g (n + 1)) : SK T (sI T 84 0 (T.1 84 0 - 1)) v g n := by
  obtain ⟨h1, h2, h3, h4, h5, h6, h7, h8⟩ := h
  have c := h1.2.2
  refine ⟨⟨?_, h2, h3, h4, h5, h6, ?_, fun j hj => h8 j (by omega)⟩, Nat.le_refl _, rfl⟩
  · exact h1.mv (fun k a b => sI_ne (by omega)) (fun k _ => rfl) c.1 c.2.1 c.2.2.2
  · rw [sI_v, h7]; exact nI_sub
theorem si_rg1 (h : SI T v g n) (hr : rn T = r + 1) (hr2 : r ≤ 3 + g) : SI (sI T 71 0 (T.1 71 0 - 1)) v g n ∧ rn (sI T 71 0 (T.1 71 0 - 1)) = r ∧ vn (sI T 71 0 (T.1 71 0 - 1)) = vn T := by
  obtain ⟨h1, h2, h3, h4, h5, h6, h7, h8⟩ := h
  have c := h1.2.2
  have e71 : (sI T 71 0 (T.1 71 0 - 1)).1 71 0 = nI r := by
    rw [sI_v, c.1.1.1, hr]; exact nI_sub
  have ern : rn (sI T 71 0 (T.1 71 0 - 1)) = r := by
    unfold rn
    rw [e71]
    exact nc (by omega)
  have e73 : (sI T 71 0 (T.1 71 0 - 1)).1 73 = T.1 73 := sI_ne (by omega)
  refine ⟨⟨?_, h2, h3, h4, h5, by omega, h7, h8⟩, ern, rfl⟩
  refine h1.mv (fun k a b => sI_ne (by omega)) (fun k _ => rfl) ⟨⟨by rw [ern]; exact e71, by have := c.1.1.2; omega⟩, fun k hk => ?_⟩ c.2.1 c.2.2.2
  rw [e73]
  exact c.1.2 k (by omega)
theorem si_rg (hA : IvS A v (g + 1) v' g' (N + 1)) (fA : FSf A) (hgg : g + 1 ≤ g') (hN : N < 90000) (hn : n ≤ N) (hg : g < 8) (h : SI T v g n) (hc : cn (rgC X A i T) < 6000) (h0 : (rgC X A i T).1 7 0 = 0) : SK T (rgC X A i T) v' g' n := by
  unfold rgC at hc h0 ⊢
  by_cases c : 0 ≤ rgQ X T (i + 1)
  · rw [if_pos c] at h0
    exact absurd h0 (flT_bad (by decide))
  rw [if_neg c] at hc h0 ⊢
  have s1 := si_rgo (nm := xN X (i + 1)) h hg (by omega)
  generalize rgO T (xN X (i + 1)) = S at *
  have c1 : cn (A 0 0 0 S) < 6000 := (FS.rgl).lt ((fA 0 0 0 S).tg s1.1.1.1) hc
  have o1 : (A 0 0 0 S).1 7 0 = 0 := (FS.rgl).ok h0
  have s2 := hA 0 0 0 (n + 1) S (by omega) s1.1 c1 o1
  generalize A 0 0 0 S = U at *
  have s3 := si_out s2.1
  have r3 : rn (sI U 84 0 (U.1 84 0 - 1)) = rn T + 1 := s3.2.2.trans (s2.2.2.trans s1.2.1)
  have rb : rn T ≤ 3 + g' := by have := h.2.2.2.2.2.1; omega
  have s4 := si_rg1 s3.1 r3 rb
  have e1 : (sI U 84 0 (U.1 84 0 - 1)).1 71 0 = U.1 71 0 := by rw [sI_ne (by omega)]
  rw [e1] at s4
  unfold rgL
  have s5 := s4.1.fo (FO.dl (c := 4 + T.1 86 0)) (by unfold dlS; rw [sI_ne (by omega)]; exact s4.1.2.2.1)
  refine ⟨s5.1, ?_, s5.2.2.trans s4.2.1⟩
  have a1 := s1.2.2
  have a2 := s2.2.1
  have a3 := s3.2.1
  have a4 := s4.2.2
  have a5 := s5.2.1
  omega
theorem si_pr {ys no : Int32} {zb : Bool} (hA : IvS A v g v1 g1 N) (fA : FSf A) (hB : if zb = true then v' = v1 ∧ g' = g1 else IvS B v1 g1 v' g' N) (fB : FSf B) (hn : n ≤ N) (h : SI T v g n) (hc : cn (prC X A B zb ys no i T) < 6000) (h0 : (prC X A B zb ys no i T).1 7 0 = 0) : SK T (prC X A B zb ys no i T) v' g' n := by
  unfold prC at hc h0 ⊢
  dsimp only at hc h0 ⊢
  have sk := h.fo (FO.kw (p := ys)) (by rw [kw_83]; exact h.2.2.1)
  generalize kwS T ys = S at *
  have gS := sk.1.1.1
  have ff := fA 0 0 0 S
  have hS := hA 0 0 0 n S hn sk.1
  generalize A 0 0 0 S = T2 at *
  by_cases c : T2.1 7 0 = 0
  · rw [if_pos c] at hc h0 ⊢
    have g2 := ff.tg gS
    have k3 : FS T2 (kwS (rsS T2 (T.1 81 0) (T.1 82 0) (T.1 75 0) (T.1 83 0)) no) := FS.rs.tr FS.kw
    have k3o : FO T2 (kwS (rsS T2 (T.1 81 0) (T.1 82 0) (T.1 75 0) (T.1 83 0)) no) := FO.rs.tr FO.kw
    have k83 : (kwS (rsS T2 (T.1 81 0) (T.1 82 0) (T.1 75 0) (T.1 83 0)) no).1 83 0 = T.1 83 0 := by rw [kw_83, rs_83]
    generalize kwS (rsS T2 (T.1 81 0) (T.1 82 0) (T.1 75 0) (T.1 83 0)) no = T3 at *
    have k4 : FS T3 (if zb = true then T3 else B 0 0 0 T3) := FS.if2 FS.rf (fB _ _ _ _)
    have hS4 : SI T3 v1 g1 n → cn (if zb = true then T3 else B 0 0 0 T3) < 6000 → (if zb = true then T3 else B 0 0 0 T3).1 7 0 = 0 → SK T3 (if zb = true then T3 else B 0 0 0 T3) v' g' n := by
      intro s3 c4 o4
      by_cases z : zb = true
      · rw [if_pos z] at hB ⊢
        rw [hB.1, hB.2]
        exact SK.rf s3
      · rw [if_neg z] at hB c4 o4 ⊢
        exact hB 0 0 0 n T3 hn s3 c4 o4
    generalize (if zb = true then T3 else B 0 0 0 T3) = T4 at *
    by_cases c4 : T4.1 7 0 = 0
    · rw [if_pos c4] at hc h0 ⊢
      have g4 := k4.tg (k3.tg g2)
      have c4' : cn T4 < 6000 := FS.mt.lt g4 hc
      have c3' : cn T3 < 6000 := k4.lt (k3.tg g2) c4'
      have c2' : cn T2 < 6000 := k3.lt g2 c3'
      have s2 := sk.tr (hS c2' c)
      have s3 := s2.tr (s2.1.fo k3o (by rw [k83]; exact h.2.2.1))
      have s4 := s3.tr (hS4 s3.1 c4' c4)
      refine s4.tr (s4.1.fo FO.mt ?_)
      rcases mt_83 (T := T4) (st := T2.1 81 0) (kw := T2.1 82 0) (lv := T2.1 75 0) (rc := T2.1 83 0) (p := nI (xP X i)) with z | z
      · rw [z]; exact s4.1.2.2.1
      · rw [z]; exact s2.1.2.2.1
    · rw [if_neg c4] at h0
      exact absurd h0 c4
  · rw [if_neg c] at h0
    exact absurd h0 c
theorem si_wh (hw : Wf X ta false lo hi) (hb : hi < 100000) (hB : IvS B v g v' g' N) (fB : FSf B) (hn : n ≤ N) (h : SI T v g n) (hc : cn (whC X B ta tb i T) < 6000) (h0 : (whC X B ta tb i T).1 7 0 = 0) : SK T (whC X B ta tb i T) v' g' n := by
  unfold whC at hc h0 ⊢
  dsimp only at hc h0 ⊢
  have s0 : SK T (whO X tb T) v g n := by
    unfold whO
    split
    · exact SK.rf h
    · exact h.fo (FO.wr (by omega)) (by rw [sI_ne (by omega)]; exact h.2.2.1)
  generalize whO X tb T = S at *
  have g1 : Tg (cdC X ta S) := FS.cd.tg s0.1.1.1
  have h1 := si_cd hw hb s0.1
  generalize cdC X ta S = C at *
  by_cases c : C.1 7 0 = 0
  · rw [if_pos c] at hc h0 ⊢
    have f1 : FS C (kwS C (akY X ta C)) := FS.kw
    have f2 : FS (kwS C (akY X ta C)) (B 0 0 0 (kwS C (akY X ta C))) := fB _ _ _ _
    have hS := hB 0 0 0 n (kwS C (akY X ta C)) hn
    have k83 : (kwS C (akY X ta C)).1 83 0 = C.1 83 0 := by rw [kw_83]
    have fo : FO C (kwS C (akY X ta C)) := FO.kw
    generalize kwS C (akY X ta C) = K at *
    generalize B 0 0 0 K = T2 at *
    have f3 : FS T2 (if T2.1 7 0 = 0 ∧ ¬ T2.1 83 0 = 0 ∧ ¬ T2.1 75 0 = C.1 75 0 then flT T2 8 (nI (xP X i)) else T2) := FS.if2 (FS.fe (FE.fl (by decide))) FS.rf
    have o3 : FO T2 (if T2.1 7 0 = 0 ∧ ¬ T2.1 83 0 = 0 ∧ ¬ T2.1 75 0 = C.1 75 0 then flT T2 8 (nI (xP X i)) else T2) := FO.if2 FO.fl FO.rf
    generalize (if T2.1 7 0 = 0 ∧ ¬ T2.1 83 0 = 0 ∧ ¬ T2.1 75 0 = C.1 75 0 then flT T2 8 (nI (xP X i)) else T2) = T3 at *
    have f4 : FS T3 (kwS (rsS T3 (C.1 81 0) (C.1 82 0) (C.1 75 0) (C.1 83 0)) (akN X ta C)) := FS.rs.tr FS.kw
    have o4 : FO T3 (kwS (rsS T3 (C.1 81 0) (C.1 82 0) (C.1 75 0) (C.1 83 0)) (akN X ta C)) := FO.rs.tr FO.kw
    have e83 : (kwS (rsS T3 (C.1 81 0) (C.1 82 0) (C.1 75 0) (C.1 83 0)) (akN X ta C)).1 83 0 = C.1 83 0 := by rw [kw_83, rs_83]
    generalize kwS (rsS T3 (C.1 81 0) (C.1 82 0) (C.1 75 0) (C.1 83 0)) (akN X ta C) = T5 at *
    have gK := f1.tg g1
    have g2 := f2.tg gK
    have g3 := f3.tg g2
    have c3 := f4.lt g3 hc
    have c2 := f3.lt g2 c3
    have cK := f2.lt gK c2
    have cC := f1.lt g1 cK
    have s1 := s0.tr (h1 cC)
    have sK := s1.tr (s1.1.fo fo (by rw [k83]; exact s1.1.2.2.1))
    have s2 := sK.tr (hS sK.1 c2 (f3.ok (f4.ok h0)))
    exact s2.tr (s2.1.fo (o3.tr o4) (by rw [e83]; exact s1.1.2.2.1))
  · rw [if_neg c] at h0
    exact absurd h0 c
theorem si_tro (h : SI T v g n) (hn : n < 90000) : SK T (trO T) v g (n + 1) := by
  obtain ⟨h1, h2, h3, h4, h5, h6, h7, h8⟩ := h
  have c := h1.2.2
  have ean : arn T = n := by unfold arn; rw [h7]; exact nc (by omega)
  have o : ∀ k, k ≠ 85 → k ≠ 84 → (trO T).1 k = T.1 k := by
    intro k a b
    unfold trO
    rw [sI_ne b, sI_ne a]
  have e85 : ∀ k, (trO T).1 85 k = if k = n then -1 else T.1 85 k := by
    intro k
    unfold trO
    rw [sI_ne (by omega), ean, sI_at]
    rfl
  refine ⟨⟨?_, h2, h3, h4, h5, h6, ?_, fun j hj => ?_⟩, Nat.le_refl _, rfl⟩
  · exact h1.mv (fun k a b => o k (by omega) (by omega)) (fun k _ => rfl) c.1 c.2.1 c.2.2.2
  · unfold trO
    rw [sI_v, ean]
  · rw [e85]
    by_cases q : j = n
    · rw [if_pos q]; exact Or.inl (by decide)
    · rw [if_neg q]; exact h8 j (by omega)
theorem si_ty (hA : IvS A v g v1 g1 (N + 1)) (fA : FSf A) (hB : IvS B v1 g1 v' g' N) (fB : FSf B) (hN : N < 90000) (hn : n ≤ N) (h : SI T v g n) (hc : cn (trC X A B ta i T) < 6000) (h0 : (trC X A B ta i T).1 7 0 = 0) : SK T (trC X A B ta i T) v' g' n := by
  unfold trC at hc h0 ⊢
  dsimp only at hc h0 ⊢
  have s0 := si_tro h (by omega)
  have g0 := s0.1.1.1
  have f1 := fA 0 0 0 (trO T)
  have hS := hA 0 0 0 (n + 1) (trO T) (by omega) s0.1
  generalize A 0 0 0 (trO T) = T2 at *
  have f2 : FS T2 (sI T2 84 0 (T2.1 84 0 - 1)) := FS.wr (by omega)
  have hO : SI T2 v1 g1 (n + 1) → SK T2 (sI T2 84 0 (T2.1 84 0 - 1)) v1 g1 n := si_out
  generalize sI T2 84 0 (T2.1 84 0 - 1) = T3 at *
  by_cases c : T3.1 7 0 = 0
  · rw [if_pos c] at hc h0 ⊢
    generalize (if T.1 83 0 = 0 then T.1 82 0 else T.1 82 0 &&& (gvA X ta T 0 ^^^ (-1))) = kk at *
    have f4 : FS T3 (rsS T3 (T.1 81 0) kk (T.1 75 0) (T.1 83 0)) := FS.rs
    have o4 : FO T3 (rsS T3 (T.1 81 0) kk (T.1 75 0) (T.1 83 0)) := FO.rs
    have e83 : (rsS T3 (T.1 81 0) kk (T.1 75 0) (T.1 83 0)).1 83 0 = T.1 83 0 := rs_83
    generalize rsS T3 (T.1 81 0) kk (T.1 75 0) (T.1 83 0) = T4 at *
    have f5 : FS T4 (sI T4 87 0 (T4.1 87 0 + 1)) := FS.wr (by omega)
    have o5 : FO T4 (sI T4 87 0 (T4.1 87 0 + 1)) := FO.wr (by omega)
    have d83 : (sI T4 87 0 (T4.1 87 0 + 1)).1 83 0 = T4.1 83 0 := by rw [sI_ne (by omega)]
    generalize sI T4 87 0 (T4.1 87 0 + 1) = T5 at *
    have f6 := fB 0 0 0 T5
    have hS6 := hB 0 0 0 n T5 hn
    generalize B 0 0 0 T5 = T6 at *
    have f7 : FS T6 (sI T6 87 0 (T6.1 87 0 - 1)) := FS.wr (by omega)
    have o7 : FO T6 (sI T6 87 0 (T6.1 87 0 - 1)) := FO.wr (by omega)
    have b83 : (sI T6 87 0 (T6.1 87 0 - 1)).1 83 0 = T6.1 83 0 := by rw [sI_ne (by omega)]
    generalize sI T6 87 0 (T6.1 87 0 - 1) = T7 at *
    by_cases c7 : T7.1 7 0 = 0
    · rw [if_pos c7] at hc h0 ⊢
      have g2 := f1.tg g0
      have g3 := f2.tg g2
      have g4 := f4.tg g3
      have g5 := f5.tg g4
      have g6 := f6.tg g5
      have g7 := f7.tg g6
      have c7' : cn T7 < 6000 := FS.mt.lt g7 hc
      have c6 := f7.lt g6 c7'
      have c5 := f6.lt g5 c6
      have c4 := f5.lt g4 c5
      have c3 := f4.lt g3 c4
      have c2 := f2.lt g2 c3
      have s2 := s0.tr (hS c2 (f2.ok c))
      have s3 := s2.tr (hO s2.1)
      have s5 := s3.tr (s3.1.fo (o4.tr o5) (by rw [d83, e83]; exact h.2.2.1))
      have s6 := s5.tr (hS6 s5.1 c6 (f7.ok c7))
      have s7 := s6.tr (s6.1.fo o7 (by rw [b83]; exact s6.1.2.2.1))
      refine s7.tr (s7.1.fo FO.mt ?_)
      rcases mt_83 (T := T7) (st := T3.1 81 0) (kw := T3.1 82 0) (lv := T3.1 75 0) (rc := T3.1 83 0) (p := nI (xP X i)) with z | z
      · rw [z]; exact s7.1.2.2.1
      · rw [z]; exact s3.1.2.2.1
    · rw [if_neg c7] at h0
      exact absurd h0 c7
  · rw [if_neg c] at h0
    exact absurd h0 c
end SIX
