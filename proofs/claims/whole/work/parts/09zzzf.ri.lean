/-! regions lie one in another, also behind a fault -/
abbrev RiQ (A : StF) (v g N : Nat) : Prop := ∀ (p q : Int32) (j n : Nat) (T : gSt), n ≤ N → SI T v g n → T.1 7 0 = 0 → cn (A p q j T) < 6000 → Ri (A p q j T)
section RIK
variable {T T' T0 T1 T2 S : gSt} {X : Lx} {k i j e it v g n v' g' v1 g1 N lo hi a b c w r m : Nat} {p q s x y ys no : Int32} {nm : Int64} {A B : StF} {ta tb t : Tr}
theorem Ri.eq (h : Ri T) (e : T'.1 74 = T.1 74) : Ri T' := fun c hc => by rw [e]; exact h c hc
theorem k74_fe (h : FE T T') : T'.1 74 = T.1 74 := h.1 74 (by omega)
theorem k74_fo (h : FO T T') : T'.1 74 = T.1 74 := h.1 74 (by omega)
theorem SI.ri (h : SI T v g n) : Ri T := h.1.2.2.2.1
theorem ri_cd : (cdC X ta T).1 74 = T.1 74 := by
  unfold cdC cnT
  split
  · rw [flT_o (by omega) (by omega)]; exact k74_fe (chk_fe ta 0 0 T)
  · exact k74_fe (chk_fe ta 0 0 T)
theorem ri_va : (vaC X ta i v T).2.1 74 = T.1 74 := by
  have fM : FE T (vaM X T i).2 := (FE.wr (by omega)).tr (FE.me _ _ _)
  have fF : FE (vaM X T i).2 (vaF X ta (vaM X T i).2 (vaM X T i).1) := by
    unfold vaF vaR
    by_cases z : isZ ta = true
    · rw [if_pos z]; exact FE.rf
    · simp only [if_neg z]
      exact (chk_fe (X := X) ta 0 0 _).tr FE.ft
  have e := (k74_fe fF).trans (k74_fe fM)
  unfold vaC vaE
  dsimp only
  have see : ∀ S : gSt, ∀ nm sl t, (seS S nm sl t).1 74 = S.1 74 := fun S nm sl t => by
    unfold seS
    rw [sI_ne (by omega), sI_ne (by omega), sI_ne (by omega)]
    rfl
  repeat' split
  all_goals first
    | exact e
    | (rw [flT_o (by omega) (by omega)]; exact e)
    | (rw [see]; exact e)
    | (rw [k74_fo FO.gv, see]; exact e)
theorem ri_rt : (rtC X ta i it T).2.1 74 = T.1 74 := by
  unfold rtC
  repeat' split
  · exact k74_fo FO.sp
  · dsimp only
    rw [k74_fo FO.sp, k74_fe FE.ft]
    exact k74_fe (chk_fe ta 0 0 T)
  · dsimp only
    unfold rtO
    split
    · rfl
    · exact flT_o (by omega) (by omega)
theorem ri_cs : (csC X i T).1 74 = T.1 74 := by
  have e : (srS X T (i + 1)).1 74 = T.1 74 := k74_fe FE.sr
  unfold csC
  repeat' split
  · rw [flT_o (by omega) (by omega)]; exact e
  · rw [k74_fo ((FO.ar _ _).tr FO.dl)]; exact e
  · exact e
theorem ri_se : (seC X ta tb T).1 74 = T.1 74 := by
  have f1 := k74_fe (chk_fe (X := X) tb 0 0 T)
  unfold seC
  repeat' split
  · unfold svS
    split
    · rw [k74_fo FO.gv, k74_fe FE.ft]; exact f1
    · rw [k74_fe FE.ft]; exact f1
  · rw [flT_o (by omega) (by omega)]; exact f1
  · rw [k74_fe FE.ft, k74_fe FE.td, k74_fe (chk_fe (X := X) ta 0 0 _)]; exact f1
  · rw [flT_o (by omega) (by omega)]; exact f1
  · exact f1
theorem ri_rg (hA : RiQ A v (g + 1) (N + 1)) (hN : N < 90000) (hn : n ≤ N) (hg : g < 8) (h : SI T v g n) (h0 : T.1 7 0 = 0) (hc : cn (rgC X A i T) < 6000) : Ri (rgC X A i T) := by
  unfold rgC at hc ⊢
  split
  · exact h.ri.eq (flT_o (by omega) (by omega))
  rename_i c
  rw [if_neg c] at hc
  have s1 := si_rgo (nm := xN X (i + 1)) h hg (by omega)
  have e7 : (rgO T (xN X (i + 1))).1 7 0 = T.1 7 0 := by
    unfold rgO
    rw [sI_ne (by omega), sI_ne (by omega), sI_ne (by omega), sI_ne (by omega), sI_ne (by omega)]
    show (sI (sI T 86 0 (T.1 86 0 + 1)) 74 (4 + T.1 86 0).toNatClampNeg (inL T (arn T) 0 0)).1 7 0 = _
    rw [sI_ne (by omega), sI_ne (by omega)]
  have lo : ∀ k, k ≠ 84 → k ≠ 71 → k ≠ 75 → (rgL (A 0 0 0 (rgO T (xN X (i + 1)))) (4 + T.1 86 0)).1 k = (A 0 0 0 (rgO T (xN X (i + 1)))).1 k := fun k a b c => by
    unfold rgL dlS
    rw [sI_ne c, sI_ne b, sI_ne a]
  have c1 : cn (A 0 0 0 (rgO T (xN X (i + 1)))) < 6000 := by
    unfold cn at hc ⊢
    rw [lo 65 (by omega) (by omega) (by omega)] at hc
    exact hc
  exact (hA 0 0 0 (n + 1) _ (by omega) s1.1 (by rw [e7]; exact h0) c1).eq (lo 74 (by omega) (by omega) (by omega))
theorem ri_pr {zb : Bool} (iA : IvS A v g v1 g1 N) (hA : RiQ A v g N) (fA : FSf A) (hB : ¬ zb = true → RiQ B v1 g1 N) (fB : FSf B) (hn : n ≤ N) (h : SI T v g n) (h0 : T.1 7 0 = 0) (hc : cn (prC X A B zb ys no i T) < 6000) : Ri (prC X A B zb ys no i T) := by
  unfold prC at hc ⊢
  dsimp only at hc ⊢
  have sk := h.fo (FO.kw (p := ys)) (by rw [kw_83]; exact h.2.2.1)
  have k7 : (kwS T ys).1 7 0 = T.1 7 0 := by
    unfold kwS
    split
    · rfl
    · rw [sI_ne (by omega)]
  generalize kwS T ys = S at *
  have ff := fA 0 0 0 S
  have hS := iA 0 0 0 n S hn sk.1
  have rA := hA 0 0 0 n S hn sk.1 (by rw [k7]; exact h0)
  generalize A 0 0 0 S = T2 at *
  by_cases c : T2.1 7 0 = 0
  · rw [if_pos c] at hc ⊢
    have g2 := ff.tg sk.1.1.1
    have k3 : FS T2 (kwS (rsS T2 (T.1 81 0) (T.1 82 0) (T.1 75 0) (T.1 83 0)) no) := FS.rs.tr FS.kw
    have k3o : FO T2 (kwS (rsS T2 (T.1 81 0) (T.1 82 0) (T.1 75 0) (T.1 83 0)) no) := FO.rs.tr FO.kw
    have k83 : (kwS (rsS T2 (T.1 81 0) (T.1 82 0) (T.1 75 0) (T.1 83 0)) no).1 83 0 = T.1 83 0 := by rw [kw_83, rs_83]
    have k37 : (kwS (rsS T2 (T.1 81 0) (T.1 82 0) (T.1 75 0) (T.1 83 0)) no).1 7 0 = T2.1 7 0 := by
      unfold kwS rsS
      split
      · rw [sI_ne (by omega), sI_ne (by omega), sI_ne (by omega), sI_ne (by omega)]
      · rw [sI_ne (by omega), sI_ne (by omega), sI_ne (by omega), sI_ne (by omega), sI_ne (by omega)]
    generalize kwS (rsS T2 (T.1 81 0) (T.1 82 0) (T.1 75 0) (T.1 83 0)) no = T3 at *
    have k4 : FS T3 (if zb = true then T3 else B 0 0 0 T3) := FS.if2 FS.rf (fB _ _ _ _)
    have c4 : cn (if zb = true then T3 else B 0 0 0 T3) < 6000 := by
      generalize (if zb = true then T3 else B 0 0 0 T3) = T4 at hc
      split at hc
      · rw [cn_fo FO.mt] at hc; exact hc
      · exact hc
    have c3' : cn T3 < 6000 := k4.lt (k3.tg g2) c4
    have c2' : cn T2 < 6000 := k3.lt g2 c3'
    have s2 := sk.tr (hS c2' c)
    have s3 := s2.tr (s2.1.fo k3o (by rw [k83]; exact h.2.2.1))
    have r4 : Ri (if zb = true then T3 else B 0 0 0 T3) := by
      by_cases z : zb = true
      · rw [if_pos z]; exact s3.1.ri
      · rw [if_neg z] at c4 ⊢
        exact hB z 0 0 0 n T3 hn s3.1 (by rw [k37]; exact c) c4
    generalize (if zb = true then T3 else B 0 0 0 T3) = T4 at *
    split
    · exact r4.eq (k74_fo FO.mt)
    · exact r4
  · rw [if_neg c] at hc ⊢
    exact rA hc
theorem ri_wh (hw : Wf X ta false lo hi) (hb : hi < 100000) (hB : RiQ B v g N) (fB : FSf B) (hn : n ≤ N) (h : SI T v g n) (hc : cn (whC X B ta tb i T) < 6000) : Ri (whC X B ta tb i T) := by
  unfold whC at hc ⊢
  dsimp only at hc ⊢
  have s0 : SK T (whO X tb T) v g n := by
    unfold whO
    split
    · exact SK.rf h
    · exact h.fo (FO.wr (by omega)) (by rw [sI_ne (by omega)]; exact h.2.2.1)
  generalize whO X tb T = S at *
  have g1 : Tg (cdC X ta S) := FS.cd.tg s0.1.1.1
  have h1 := si_cd hw hb s0.1
  generalize cdC X ta S = C at *
  by_cases c : C.1 7 0 = 0
  · rw [if_pos c] at hc ⊢
    have f1 : FS C (kwS C (akY X ta C)) := FS.kw
    have fo : FO C (kwS C (akY X ta C)) := FO.kw
    have k83 : (kwS C (akY X ta C)).1 83 0 = C.1 83 0 := by rw [kw_83]
    have k7 : (kwS C (akY X ta C)).1 7 0 = C.1 7 0 := by
      unfold kwS
      split
      · rfl
      · rw [sI_ne (by omega)]
    generalize kwS C (akY X ta C) = K at *
    have f2 := fB 0 0 0 K
    have hS := hB 0 0 0 n K hn
    generalize B 0 0 0 K = T2 at *
    have o3 : FO T2 (if T2.1 7 0 = 0 ∧ ¬ T2.1 83 0 = 0 ∧ ¬ T2.1 75 0 = C.1 75 0 then flT T2 8 (nI (xP X i)) else T2) := FO.if2 FO.fl FO.rf
    generalize (if T2.1 7 0 = 0 ∧ ¬ T2.1 83 0 = 0 ∧ ¬ T2.1 75 0 = C.1 75 0 then flT T2 8 (nI (xP X i)) else T2) = T3 at *
    have o4 : FO T3 (kwS (rsS T3 (C.1 81 0) (C.1 82 0) (C.1 75 0) (C.1 83 0)) (akN X ta C)) := FO.rs.tr FO.kw
    rw [cn_fo (o3.tr o4)] at hc
    have cK := f2.lt (f1.tg g1) hc
    have cC := f1.lt g1 cK
    have s1 := s0.tr (h1 cC)
    have sK := s1.tr (s1.1.fo fo (by rw [k83]; exact s1.1.2.2.1))
    exact (hS sK.1 (by rw [k7]; exact c) hc).eq (k74_fo (o3.tr o4))
  · rw [if_neg c] at hc ⊢
    exact (s0.tr (h1 hc)).1.ri
theorem ri_ty (iA : IvS A v g v1 g1 (N + 1)) (hA : RiQ A v g (N + 1)) (fA : FSf A) (hB : RiQ B v1 g1 N) (fB : FSf B) (hN : N < 90000) (hn : n ≤ N) (h : SI T v g n) (h0 : T.1 7 0 = 0) (hc : cn (trC X A B ta i T) < 6000) : Ri (trC X A B ta i T) := by
  unfold trC at hc ⊢
  dsimp only at hc ⊢
  have s0 := si_tro h (by omega)
  have g0 := s0.1.1.1
  have e7 : (trO T).1 7 0 = T.1 7 0 := by
    unfold trO
    rw [sI_ne (by omega), sI_ne (by omega)]
  have f1 := fA 0 0 0 (trO T)
  have hS := iA 0 0 0 (n + 1) (trO T) (by omega) s0.1
  have rA := hA 0 0 0 (n + 1) (trO T) (by omega) s0.1 (by rw [e7]; exact h0)
  generalize A 0 0 0 (trO T) = T2 at *
  have f2 : FS T2 (sI T2 84 0 (T2.1 84 0 - 1)) := FS.wr (by omega)
  have hO : SI T2 v1 g1 (n + 1) → SK T2 (sI T2 84 0 (T2.1 84 0 - 1)) v1 g1 n := si_out
  have e3 : (sI T2 84 0 (T2.1 84 0 - 1)).1 74 = T2.1 74 := sI_ne (by omega)
  have ec3 : cn (sI T2 84 0 (T2.1 84 0 - 1)) = cn T2 := cn_w (by omega)
  generalize sI T2 84 0 (T2.1 84 0 - 1) = T3 at *
  by_cases c : T3.1 7 0 = 0
  · rw [if_pos c] at hc ⊢
    generalize (if T.1 83 0 = 0 then T.1 82 0 else T.1 82 0 &&& (gvA X ta T 0 ^^^ (-1))) = kk at *
    have f4 : FS T3 (rsS T3 (T.1 81 0) kk (T.1 75 0) (T.1 83 0)) := FS.rs
    have o4 : FO T3 (rsS T3 (T.1 81 0) kk (T.1 75 0) (T.1 83 0)) := FO.rs
    have e83 : (rsS T3 (T.1 81 0) kk (T.1 75 0) (T.1 83 0)).1 83 0 = T.1 83 0 := rs_83
    have e47 : (rsS T3 (T.1 81 0) kk (T.1 75 0) (T.1 83 0)).1 7 0 = T3.1 7 0 := by
      unfold rsS
      rw [sI_ne (by omega), sI_ne (by omega), sI_ne (by omega), sI_ne (by omega)]
    generalize rsS T3 (T.1 81 0) kk (T.1 75 0) (T.1 83 0) = T4 at *
    have f5 : FS T4 (sI T4 87 0 (T4.1 87 0 + 1)) := FS.wr (by omega)
    have o5 : FO T4 (sI T4 87 0 (T4.1 87 0 + 1)) := FO.wr (by omega)
    have d83 : (sI T4 87 0 (T4.1 87 0 + 1)).1 83 0 = T4.1 83 0 := by rw [sI_ne (by omega)]
    have e57 : (sI T4 87 0 (T4.1 87 0 + 1)).1 7 0 = T4.1 7 0 := by rw [sI_ne (by omega)]
    generalize sI T4 87 0 (T4.1 87 0 + 1) = T5 at *
    have f6 := fB 0 0 0 T5
    have hS6 := hB 0 0 0 n T5 hn
    generalize B 0 0 0 T5 = T6 at *
    have e6 : (sI T6 87 0 (T6.1 87 0 - 1)).1 74 = T6.1 74 := sI_ne (by omega)
    have ec6 : cn (sI T6 87 0 (T6.1 87 0 - 1)) = cn T6 := cn_w (by omega)
    generalize sI T6 87 0 (T6.1 87 0 - 1) = T7 at *
    have c7 : cn T7 < 6000 := by
      split at hc
      · rw [cn_fo FO.mt] at hc; exact hc
      · exact hc
    have g2 := f1.tg g0
    have g3 := f2.tg g2
    have g4 := f4.tg g3
    have g5 := f5.tg g4
    have c6 : cn T6 < 6000 := by omega
    have c5 := f6.lt g5 c6
    have c4 := f5.lt g4 c5
    have c3 := f4.lt g3 c4
    have c2 := f2.lt g2 c3
    have s2 := s0.tr (hS c2 (f2.ok c))
    have s3 := s2.tr (hO s2.1)
    have s5 := s3.tr (s3.1.fo (o4.tr o5) (by rw [d83, e83]; exact h.2.2.1))
    have r7 := (hS6 s5.1 (by rw [e57, e47]; exact c) c6).eq e6
    split
    · exact r7.eq (k74_fo FO.mt)
    · exact r7
  · rw [if_neg c] at hc ⊢
    exact (rA (by omega)).eq e3
theorem st_ri (t : Tr) : ∀ (m a b v g v' g' N : Nat), Ws X t m a b v g v' g' → b < 100000 → N + bdT t ≤ bL m → RiQ (stS X it t) v g N := by
  induction t using Tr_ind with
  | hz t hz =>
    intro m a b v g v' g' N hw hb hN p q j n T hn h h0 hc
    rw [stS_z hz]
    exact h.ri
  | h k i e ta tb ihA ihB =>
    intro m a b v g v' g' N hw hb hN p q j n T hn h h0 hc
    have fA := st_fs (X := X) (it := it) ta
    have fB := st_fs (X := X) (it := it) tb
    rw [stS_n] at hc ⊢
    rw [Ws_n] at hw
    rw [bdT_n] at hN
    unfold WsN at hw
    unfold bL at hN ihA ihB
    have iA := st_inv (X := X) (it := it) ta
    unfold bL at iA
    by_cases m2 : m = 2
    · rw [if_pos m2] at hw hN
      obtain ⟨rfl, hw, hib⟩ := hw
      rw [if_pos rfl] at hN
      have e0 : stN X it (stS X it ta) (stS X it tb) ta tb 31 i e p q j T = sI (stS X it ta 0 0 0 T) 77 0 (T.1 77 0) := rfl
      rw [e0] at hc ⊢
      have mo := Ws_mo _ _ _ _ _ _ _ _ hw
      rw [cn_w (by omega)] at hc
      exact (ihA 1 _ _ _ _ _ _ N hw (by omega) (by rw [if_neg (by omega)]; omega) 0 0 0 n T hn h h0 hc).eq (sI_ne (by omega))
    rw [if_neg m2] at hw hN
    by_cases m1 : m = 1
    · rw [if_pos m1] at hw
      obtain ⟨rfl, c, v1, g1, hwa, hwb⟩ := hw
      rw [if_neg (by omega), if_pos (Or.inl rfl)] at hN
      have e0 : stN X it (stS X it ta) (stS X it tb) ta tb 11 i e p q j T = if T.1 7 0 = 0 then stS X it tb 0 0 0 (stS X it ta 0 0 0 T) else T := rfl
      rw [e0, if_pos h0] at hc ⊢
      have mo := Ws_mo _ _ _ _ _ _ _ _ hwb
      have f1 := fA 0 0 0 T
      have c1 := (fB 0 0 0 (stS X it ta 0 0 0 T)).lt (f1.tg h.1.1) hc
      by_cases c7 : (stS X it ta 0 0 0 T).1 7 0 = 0
      · have s1 := iA 0 _ _ _ _ _ _ N hwa (by omega) (by rw [if_neg (by omega)]; omega) 0 0 0 n T hn h c1 c7
        exact ihB 1 _ _ _ _ _ _ N hwb (by omega) (by rw [if_neg (by omega)]; omega) 0 0 0 n _ hn s1.1 c7 hc
      · rw [stS_bad tb hwb rfl c7]
        exact ihA 0 _ _ _ _ _ _ N hwa (by omega) (by rw [if_neg (by omega)]; omega) 0 0 0 n T hn h h0 c1
    rw [if_neg m1] at hw
    by_cases m3 : m = 3
    · rw [if_pos m3] at hw
      obtain ⟨rfl, c, v1, g1, hwa, hwb⟩ := hw
      rw [if_neg (by omega), if_pos (Or.inr (Or.inl rfl))] at hN
      have e0 : stN X it (stS X it ta) (stS X it tb) ta tb 12 i e p q j T = prC X (stS X it ta) (stS X it tb) (isZ tb) p q j T := rfl
      rw [e0] at hc ⊢
      have cb : c ≤ b := by
        split at hwb
        · exact hwb.2.2
        · have := Ws_mo _ _ _ _ _ _ _ _ hwb; omega
      refine ri_pr (v1 := v1) (g1 := g1) (iA 2 _ _ _ _ _ _ N hwa (by omega) (by rw [if_pos rfl]; omega)) (ihA 2 _ _ _ _ _ _ N hwa (by omega) (by rw [if_pos rfl]; omega)) fA (fun z => ?_) fB hn h h0 hc
      rw [if_neg z] at hwb
      exact ihB 2 _ _ _ _ _ _ N hwb (by omega) (by rw [if_pos rfl]; omega)
    rw [if_neg m3] at hw
    by_cases k20 : k = 20
    · subst k20
      exact h.ri.eq ri_va
    rw [if_neg k20] at hw
    by_cases k21 : k = 21
    · rw [if_pos k21] at hw
      subst k21
      rw [if_neg (by omega), if_neg (by omega), if_pos (Or.inl rfl)] at hN
      obtain ⟨h1, c, h2, h3⟩ := hw
      have mo := Ws_mo _ _ _ _ _ _ _ _ h3
      have e0 : stN X it (stS X it ta) (stS X it tb) ta tb 21 i e p q j T = ifC X (stS X it tb) ta i T := rfl
      rw [e0] at hc ⊢
      unfold ifC at hc ⊢
      by_cases c0 : (cdC X ta T).1 7 0 = 0
      · rw [if_pos c0] at hc ⊢
        have c1 := (fB _ _ _ _).lt ((FS.cd (X := X) (ta := ta)).tg h.1.1) hc
        have s1 := si_cd h2.1 (by omega) h c1
        exact ihB 3 _ _ _ _ _ _ N h3 (by omega) (by rw [if_neg (by omega)]; omega) _ _ _ n _ hn s1.1 c0 hc
      · rw [if_neg c0]
        exact h.ri.eq ri_cd
    rw [if_neg k21] at hw
    by_cases k22 : k = 22
    · rw [if_pos k22] at hw
      subst k22
      rw [if_neg (by omega), if_neg (by omega), if_pos (Or.inr rfl)] at hN
      obtain ⟨h1, c, h2, h3⟩ := hw
      have mo := Ws_mo _ _ _ _ _ _ _ _ h3
      have e0 : stN X it (stS X it ta) (stS X it tb) ta tb 22 i e p q j T = whC X (stS X it tb) ta tb i T := rfl
      rw [e0] at hc ⊢
      exact ri_wh h2.1 (by omega) (ihB 2 _ _ _ _ _ _ N h3 (by omega) (by rw [if_pos rfl]; omega)) fB hn h hc
    rw [if_neg k22] at hw
    by_cases k23 : k = 23
    · subst k23
      exact h.ri.eq ri_rt
    rw [if_neg k23] at hw
    by_cases k24 : k = 24 ∨ k = 25
    · have e1 : (niT (chk X ta 0 0 T).2.2.2 (chk X ta 0 0 T).1 (plT X ta)).1 74 = T.1 74 := by
        rw [k74_fe FE.ni]
        exact k74_fe (chk_fe ta 0 0 T)
      by_cases k4 : k = 24
      · subst k4
        exact h.ri.eq e1
      · obtain rfl : k = 25 := by omega
        exact h.ri.eq ((k74_fo FO.sp).trans e1)
    rw [if_neg k24] at hw
    by_cases k30 : k = 30
    · subst k30
      exact h.ri.eq (k74_fe (chk_fe ta 0 0 T))
    rw [if_neg k30] at hw
    by_cases k29 : k = 29
    · subst k29
      exact h.ri.eq ri_se
    rw [if_neg k29] at hw
    by_cases k26 : k = 26
    · rw [if_pos k26] at hw
      subst k26
      rw [if_neg (by omega), if_neg (by omega), if_neg (by omega), if_pos rfl] at hN
      obtain ⟨h1, h2, h3⟩ := hw
      have e0 : stN X it (stS X it ta) (stS X it tb) ta tb 26 i e p q j T = rgC X (stS X it ta) i T := rfl
      rw [e0] at hc ⊢
      have mo := Ws_mo _ _ _ _ _ _ _ _ h3
      exact ri_rg (ihA 2 _ _ _ _ _ _ (N + 1) h3 (by omega) (by rw [if_pos rfl]; omega)) (by omega) hn h2 h h0 hc
    rw [if_neg k26] at hw
    by_cases k27 : k = 27
    · subst k27
      exact h.ri.eq ri_cs
    rw [if_neg k27] at hw
    by_cases k28 : k = 28
    · rw [if_pos k28] at hw
      subst k28
      rw [if_neg (by omega), if_pos (Or.inr (Or.inr rfl))] at hN
      obtain ⟨h1, c, v1, g1, h2, h3⟩ := hw
      have mo := Ws_mo _ _ _ _ _ _ _ _ h3
      have e0 : stN X it (stS X it ta) (stS X it tb) ta tb 28 i e p q j T = trC X (stS X it ta) (stS X it tb) ta i T := rfl
      rw [e0] at hc ⊢
      exact ri_ty (iA 2 _ _ _ _ _ _ (N + 1) h2 (by omega) (by rw [if_pos rfl]; omega)) (ihA 2 _ _ _ _ _ _ (N + 1) h2 (by omega) (by rw [if_pos rfl]; omega)) fA (ihB 2 _ _ _ _ _ _ N h3 (by omega) (by rw [if_pos rfl]; omega)) fB (by omega) hn h h0 hc
    · rw [if_neg k28] at hw
      exact hw.elim
end RIK
