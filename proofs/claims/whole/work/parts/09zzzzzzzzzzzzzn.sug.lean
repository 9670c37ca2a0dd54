/-! SET and KNOWN along STEPS */
-/
section SUG
variable {S S' S1 S2 S3 S4 Sf : gSt} {X : Lx} {it e e' v g n k i q c en m j a b v' g' N u s : Nat} {ta tb t : Tr} {x oq pl st kq lq rc ys no acc y t1 has : Int32} {nm : Int64} {P Q : Nat → Prop}
theorem se_kn (hv : SlB S v) (h1 : (seC X ta tb S).1 7 0 = 0) : KnQ S (seC X ta tb S) (AsR X (tD 29 i e ta tb) S) := by
  have f1 := chk_fe (X := X) tb 0 0 S
  obtain ⟨v1, v2, v3, v4⟩ := hv
  obtain ⟨a1, a2, a3, a4, a5, a6⟩ := fe_8 f1
  have evn : vn (chk X tb 0 0 S).2.2.2 = vn S := by unfold vn; rw [a3]
  have fdq : fd (isVa (chk X tb 0 0 S).2.2.2 (xN X (lfI ta))) (vn (chk X tb 0 0 S).2.2.2) = fd (isVa S (xN X (lfI ta))) (vn S) := by
    rw [evn]
    exact fd_eq (FN.eq a3 a4 a5) (vn S) (Nat.le_refl _)
  unfold seC at h1 ⊢
  by_cases c0 : (chk X tb 0 0 S).2.2.2.1 7 0 = 0
  · rw [if_pos c0] at h1 ⊢
    by_cases c4 : tkd X ta = 4
    · rw [if_pos c4] at h1 ⊢
      by_cases c5 : 0 ≤ fd (isVa (chk X tb 0 0 S).2.2.2 (xN X (lfI ta))) (vn (chk X tb 0 0 S).2.2.2)
      · rw [if_pos c5]
        rw [fdq] at c5 ⊢
        rcases fd_v (p := isVa S (xN X (lfI ta))) (vn S) with ⟨e1, _⟩ | ⟨q, q1, q2, e1⟩
        · rw [e1] at c5; exact absurd c5 (by decide)
        · obtain ⟨sq, s1, s2⟩ := v3 q q1
          have t79 : tf (chk X tb 0 0 S).2.2.2 79 (fd (isVa S (xN X (lfI ta))) (vn S)) = nI sq := by unfold tf; rw [e1, nc (by omega), a4]; exact s1
          have has : AsR X (tD 29 i e ta tb) S q := ⟨xN X (lfI ta), by rw [asN_n]; unfold asM; rw [if_neg (by omega), if_neg (by omega), if_neg (by omega), if_pos rfl]; exact ⟨c4, rfl⟩, e1⟩
          unfold svS
          rw [t79]
          generalize tf (chk X tb 0 0 S).2.2.2 80 (fd (isVa S (xN X (lfI ta))) (vn S)) = tt
          have f2 := f1.tr (FE.ft (T := (chk X tb 0 0 S).2.2.2) (x := (chk X tb 0 0 S).1) (y := tt) (v := plT X tb))
          obtain ⟨b1, b2, _⟩ := fe_8 f2
          split
          · intro u s hu hs hs2
            obtain ⟨g1, g2⟩ := gv_bit (S := ftS (chk X tb 0 0 S).2.2.2 (chk X tb 0 0 S).1 tt (plT X tb)) (e := sq) (s := s) (t1 := tt) (y := (chk X tb 0 0 S).1) (has := 1) (by omega) (by omega)
            by_cases c : s = sq
            · refine ⟨fun _ => g2 c (by decide), fun _ hp => absurd ?_ hp⟩
              have : q = u := v4 q u q1 hu (by rw [s1, hs, c])
              rw [← this]
              exact has
            · obtain ⟨g3, g4⟩ := g1 c
              rw [g3, g4, b1, b2]
              exact ⟨fun w => w, fun w _ => w⟩
          · exact KnQ.eq b1 b2
      · rw [if_neg c5] at h1
        exact absurd h1 (flT_bad (by decide))
    · rw [if_neg c4] at h1 ⊢
      split
      · exact FE.knq (f1.tr ((chk_fe ta 0 0 _).tr (FE.td.tr FE.ft)))
      · next w => rw [if_neg w] at h1; exact absurd h1 (flT_bad (by decide))
  · rw [if_neg c0]
    exact FE.knq f1
theorem rt_kn : KnQ S (stS X it (tD 23 i e ta tb) ys no j S) P := by
  have e0 : stS X it (tD 23 i e ta tb) ys no j S = (rtC X ta i it S).2 := rfl
  rw [e0]
  unfold rtC
  by_cases c : (rtO S (isZ ta) it (nI (xP X i))).1 7 0 = 0
  · rw [if_pos c]
    by_cases z : isZ ta = true
    · rw [if_pos z]
      exact KnQ.sp
    · rw [if_neg z]
      exact KnQ.sp
  · rw [if_neg c]
    show KnQ S (rtO S (isZ ta) it (nI (xP X i))) P
    unfold rtO
    by_cases c2 : (0 ≤ S.1 25 it) ↔ isZ ta = false
    · rw [if_pos c2]
      exact KnQ.rf
    · rw [if_neg c2]
      exact KnQ.eq fl_8.1 fl_8.2
theorem rg_fn (hg : S.1 86 0 = nI g) (g8 : g ≤ 8) (hr : rn S < 50) (ha : arn S < 90) : FN S (rgO S nm) ∧ (rgO S nm).1 81 0 = S.1 81 0 ∧ (rgO S nm).1 82 0 = S.1 82 0 ∧ (rgO S nm).1 77 0 = S.1 77 0 := by
  obtain ⟨_, _, _, _, _, _, _, _, _, o, o2⟩ := rgO_w (nm := nm) hg g8 hr ha
  have q : ∀ k, k = 77 ∨ k = 79 ∨ k = 81 ∨ k = 82 → (rgO S nm).1 k = S.1 k := fun k hk => o k (by omega) (by omega) (by omega) (by omega) (by omega) (by omega) (by omega)
  exact ⟨FN.eq (by rw [q 77 (by omega)]) (q 79 (by omega)) (o2 78 (by omega)), by rw [q 81 (by omega)], by rw [q 82 (by omega)], by rw [q 77 (by omega)]⟩
theorem SlB.fn (h : SlB S v) (fn : FN S S') (h7 : S'.1 77 0 = S.1 77 0) : SlB S' v := by
  obtain ⟨a1, a2, a3, a4⟩ := h
  have ev : vn S' = vn S := by unfold vn; rw [h7]
  refine ⟨a1, by omega, fun u hu => ?_, fun a b ha hb he => ?_⟩
  · rw [(fn.2 u (by omega)).1]; exact a3 u (by omega)
  · rw [(fn.2 a (by omega)).1, (fn.2 b (by omega)).1] at he
    exact a4 a b (by omega) (by omega) he
theorem rg_room (hw : Ws X (tD 26 i e ta tb) m a b v g v' g') (hN : N + bdT (tD 26 i e ta tb) ≤ bL m) (hn : n ≤ N) (ha : arn S = n) : g < 8 ∧ arn S < 40 := by
  have hw2 := hw
  rw [Ws_n] at hw
  unfold WsN at hw
  by_cases m2 : m = 2
  · rw [if_pos m2] at hw; exact absurd hw.1 (by decide)
  rw [if_neg m2] at hw
  by_cases m1 : m = 1
  · rw [if_pos m1] at hw; exact absurd hw.1 (by decide)
  rw [if_neg m1] at hw
  by_cases m3 : m = 3
  · rw [if_pos m3] at hw; exact absurd hw.1 (by decide)
  rw [if_neg m3, if_neg (by decide), if_neg (by decide), if_neg (by decide), if_neg (by decide), if_neg (by decide), if_neg (by decide), if_neg (by decide), if_pos rfl] at hw
  obtain ⟨_, g8, hwa⟩ := hw
  have bd := bd_of hwa
  have e1 : bdT (tD 26 i e ta tb) = bdT ta := rfl
  rw [e1] at hN
  unfold bL at hN
  rw [if_neg m2] at hN
  exact ⟨g8, by omega⟩
theorem tr_room (hw : Ws X (tD 28 i e ta tb) m a b v g v' g') (hN : N + bdT (tD 28 i e ta tb) ≤ bL m) (hn : n ≤ N) (ha : arn S = n) : arn S < 40 := by
  rw [Ws_n] at hw
  unfold WsN at hw
  by_cases m2 : m = 2
  · rw [if_pos m2] at hw; exact absurd hw.1 (by decide)
  rw [if_neg m2] at hw
  by_cases m1 : m = 1
  · rw [if_pos m1] at hw; exact absurd hw.1 (by decide)
  rw [if_neg m1] at hw
  by_cases m3 : m = 3
  · rw [if_pos m3] at hw; exact absurd hw.1 (by decide)
  rw [if_neg m3, if_neg (by decide), if_neg (by decide), if_neg (by decide), if_neg (by decide), if_neg (by decide), if_neg (by decide), if_neg (by decide), if_neg (by decide), if_neg (by decide), if_pos rfl] at hw
  obtain ⟨_, c, v1, g1, hwa, hwb⟩ := hw
  have bd := bd_of hwa
  have e1 : bdT (tD 28 i e ta tb) = max (bdT ta) (bdT tb) := rfl
  rw [e1] at hN
  unfold bL at hN
  rw [if_neg m2] at hN
  have := Nat.le_max_left (bdT ta) (bdT tb)
  omega
theorem kn_all (hf0 : Sf.1 7 0 = 0) (t : Tr) : ∀ (mo a b v g v' g' : Nat) (ys no : Int32) (j : Nat) (S : gSt), Ws X t mo a b v g v' g' → Gk X it Sf t ys no j S → RwS en S → SlB S v → SlB (stS X it t ys no j S) v' ∧ KnQ S (stS X it t ys no j S) (AsR X t S) := by
  induction t using Tr_ind with
  | hz t hz =>
    intro mo a b v g v' g' ys no j S hw h hR hv
    rw [stS_z hz]
    refine ⟨?_, KnQ.rf⟩
    unfold Ws at hw
    split at hw
    · exact absurd rfl (hz _ _ _ _ _)
    · obtain ⟨_, _, e1, _⟩ := hw
      rw [e1]
      exact hv
    · exact hw.elim
  | h k i e ta tb ihA ihB =>
    intro mo a b v g v' g' ys no j S hw h hR hv
    obtain ⟨fr, f77⟩ := fr_all (it := it) (en := en) hf0 (tD k i e ta tb) ys no j S h hR
    have mo' := Ws_mo _ _ _ _ _ _ _ _ hw
    rw [Gk_n] at h
    obtain ⟨⟨m9, a9, b9, v9, g9, v9', g9', n9, N9, hw9, hb9, hN9, hn9, hS⟩, h0, hF, gk⟩ := h
    have h1 := hF.ok hf0
    have C := hS.1
    rw [Ws_n] at hw
    rw [lsVA_n] at f77
    unfold WsN at hw
    unfold GkN at gk
    have h20 : vn S ≤ 20 := hv.2.1
    have hn41 : n9 ≤ 41 := by
      have : bL m9 ≤ 41 := by unfold bL; split <;> omega
      omega
    have arE : arn S = n9 := hS.ar (by omega)
    have cf := fun t S => chk_fe (X := X) t 0 0 S
    -- where VARS stay
    have sl : lsVA (tD k i e ta tb) = false → v' ≤ 20 → SlB (stS X it (tD k i e ta tb) ys no j S) v' := fun w w2 => hv.fv fr.1 (f77 (by rw [lsVA_n] at w; exact w)) mo'.2.1 w2
    by_cases m2 : mo = 2
    · rw [if_pos m2] at hw
      obtain ⟨rfl, hw, hib⟩ := hw
      rw [if_neg (by decide), if_neg (by decide), if_neg (by decide), if_neg (by decide), if_neg (by decide), if_neg (by decide), if_neg (by decide), if_neg (by decide), if_neg (by decide), if_pos (by decide)] at gk
      obtain ⟨s1, k1⟩ := ihA 1 _ _ _ _ _ _ 0 0 0 S hw gk hR hv
      refine ⟨sl rfl s1.1, fun u s hu hs hs2 => ?_⟩
      have e0 : stS X it (tD 31 i e ta tb) ys no j S = sI (stS X it ta 0 0 0 S) 77 0 (S.1 77 0) := rfl
      obtain ⟨a1, a2⟩ := k1 u s hu hs hs2
      rw [e0, sI_ne (by omega), sI_ne (by omega)]
      exact ⟨a1, fun w hp => a2 w (fun hx => hp (as_a (Or.inl rfl) hx))⟩
    rw [if_neg m2] at hw
    by_cases m1 : mo = 1
    · rw [if_pos m1] at hw
      obtain ⟨rfl, c, v1, g1, hwa, hwb⟩ := hw
      rw [if_neg (by decide), if_neg (by decide), if_neg (by decide), if_neg (by decide), if_neg (by decide), if_neg (by decide), if_neg (by decide), if_neg (by decide), if_neg (by decide), if_neg (by decide), if_pos (by decide)] at gk
      have e0 : stS X it (tD 11 i e ta tb) ys no j S = if S.1 7 0 = 0 then stS X it tb 0 0 0 (stS X it ta 0 0 0 S) else S := rfl
      obtain ⟨s1, k1⟩ := ihA 0 _ _ _ _ _ _ 0 0 0 S hwa gk.1 hR hv
      obtain ⟨f1, _⟩ := fr_all (it := it) (en := en) hf0 ta 0 0 0 S gk.1 hR
      obtain ⟨s2, k2⟩ := ihB 1 _ _ _ _ _ _ 0 0 0 _ hwb gk.2 (hR.fr f1) s1
      rw [e0, if_pos h0]
      exact ⟨s2, (k1.wk (fun u _ hx => as_a (by omega) hx)).on k2 f1.1.fn (fun u hu hx => as_b (by omega) (hx.fv f1.1.fn hu (by have := s1.2.1; omega)))⟩
    rw [if_neg m1] at hw
    by_cases m3 : mo = 3
    · rw [if_pos m3] at hw
      obtain ⟨rfl, c, v1, g1, hwa, hwb⟩ := hw
      rw [if_neg (by decide), if_neg (by decide), if_pos (by decide)] at gk
      obtain ⟨ga, gb⟩ := gk
      have e0 : stS X it (tD 12 i e ta tb) ys no j S = prC X (stS X it ta) (stS X it tb) (isZ tb) ys no j S := rfl
      have fk : FR S (kwS S ys) := kw_fr (FR.rf hS)
      have k77 : (kwS S ys).1 77 0 = S.1 77 0 := by rw [(FO.kw (T := S)).1 77 (by unfold fO; omega)]
      obtain ⟨fa, va⟩ := fr_all (it := it) (en := en) hf0 ta 0 0 0 _ ga (hR.fr fk)
      have va := va (blk_of hwa)
      have fp : FR S (prE (stS X it ta) ys no S) := by unfold prE; exact kw_fr (rs_fr (fk.on fa))
      have p77 : (prE (stS X it ta) ys no S).1 77 0 = S.1 77 0 := by
        unfold prE
        rw [(FO.kw).1 77 (by unfold fO; omega), (FO.rs).1 77 (by unfold fO; omega), va, k77]
      obtain ⟨s1, k1⟩ := ihA 2 _ _ _ _ _ _ 0 0 0 _ hwa ga (hR.fr fk) (hv.fn fk.1.fn k77)
      have k2 : KnQ S (stS X it ta 0 0 0 (kwS S ys)) (AsR X (tD 12 i e ta tb) S) := (KnQ.kw KnQ.rf).on k1 fk.1.fn (fun u hu hx => as_a (by omega) (hx.fv fk.1.fn hu (by unfold vn at h20 ⊢; rw [k77]; omega)))
      have k3 : KnQ S (prE (stS X it ta) ys no S) (AsR X (tD 12 i e ta tb) S) := by
        unfold prE
        refine KnQ.kw (KnQ.eq ?_ ?_)
        · unfold rsS; rw [sI_ne (by omega), sI_ne (by omega), sI_ne (by omega), sI_v]
        · unfold rsS; rw [sI_ne (by omega), sI_ne (by omega), sI_v]
      have fin : ∀ T4 : gSt, KnQ S T4 (AsR X (tD 12 i e ta tb) S) → KnQ S (if T4.1 7 0 = 0 then mtS T4 ((stS X it ta 0 0 0 (kwS S ys)).1 81 0) ((stS X it ta 0 0 0 (kwS S ys)).1 82 0) ((stS X it ta 0 0 0 (kwS S ys)).1 75 0) ((stS X it ta 0 0 0 (kwS S ys)).1 83 0) (nI (xP X j)) else T4) (AsR X (tD 12 i e ta tb) S) := fun T4 h4 => by
        split
        · exact KnQ.mt h4 k2 rfl rfl
        · exact h4
      by_cases z : isZ tb = true
      · rw [if_pos z] at hwb
        refine ⟨sl rfl (by rw [hwb.1]; exact s1.1), ?_⟩
        rw [e0]
        unfold prC
        dsimp only
        rw [z]
        simp only [if_true]
        by_cases c7 : (stS X it ta 0 0 0 (kwS S ys)).1 7 0 = 0
        · rw [if_pos c7]
          exact fin _ k3
        · rw [if_neg c7]
          exact k2
      · rw [if_neg z] at hwb
        have gb := gb.resolve_left z
        obtain ⟨s4, k4⟩ := ihB 2 _ _ _ _ _ _ 0 0 0 _ hwb gb (hR.fr fp) ((hv.fn fp.1.fn p77).fv (FV.rf) rfl (Ws_mo _ _ _ _ _ _ _ _ hwa).2.1 s1.1)
        have k5 : KnQ S (stS X it tb 0 0 0 (prE (stS X it ta) ys no S)) (AsR X (tD 12 i e ta tb) S) := k3.on k4 fp.1.fn (fun u hu hx => as_b (by omega) (hx.fv fp.1.fn hu (by unfold vn at h20 ⊢; rw [p77]; omega)))
        refine ⟨sl rfl s4.1, ?_⟩
        have z' : isZ tb = false := by cases hz : isZ tb with | true => exact absurd hz z | false => rfl
        rw [e0]
        unfold prC
        dsimp only
        rw [z']
        simp only [if_neg (show ¬ (false = true) by decide)]
        by_cases c7 : (stS X it ta 0 0 0 (kwS S ys)).1 7 0 = 0
        · rw [if_pos c7]
          exact fin _ k5
        · rw [if_neg c7]
          exact k2
    rw [if_neg m3] at hw
    by_cases k20 : k = 20
    · subst k20
      rw [if_pos rfl] at hw
      obtain ⟨_, rfl, hv20, rfl, _⟩ := hw
      obtain ⟨s1, k1, _⟩ := va_sl (P := AsR X (tD 20 i e ta tb) S) hv hv20 h1
      exact ⟨s1, k1⟩
    rw [if_neg k20] at hw gk
    by_cases k21 : k = 21
    · subst k21
      rw [if_pos rfl] at hw gk
      obtain ⟨_, c, _, hwb⟩ := hw
      obtain ⟨_, gb⟩ := gk
      have e0 : stS X it (tD 21 i e ta tb) ys no j S = if (cdC X ta S).1 7 0 = 0 then stS X it tb (akY X ta (cdC X ta S)) (akN X ta (cdC X ta S)) i (cdC X ta S) else cdC X ta S := rfl
      have fc := FR.cnd (X := X) (ta := ta) hS
      obtain ⟨s1, k1⟩ := ihB 3 _ _ _ _ _ _ _ _ i _ hwb gb (hR.fr fc) (hv.fn fc.1.fn cd_77)
      refine ⟨sl rfl s1.1, ?_⟩
      rw [e0]
      have kc : KnQ S (cdC X ta S) (AsR X (tD 21 i e ta tb) S) := KnQ.eq cd_8.1 cd_8.2
      split
      · exact kc.on k1 fc.1.fn (fun u hu hx => as_b (by omega) (hx.fv fc.1.fn hu (by unfold vn at h20 ⊢; rw [cd_77]; omega)))
      · exact kc
    rw [if_neg k21] at hw gk
    by_cases k12 : k = 12
    · subst k12
      exact absurd hw (by simp)
    rw [if_neg k12] at gk
    by_cases k22 : k = 22
    · subst k22
      rw [if_pos rfl] at hw gk
      obtain ⟨_, c, _, hwb⟩ := hw
      obtain ⟨ge, gb⟩ := gk
      have fo := FR.wo (X := X) (tb := tb) hS
      have o77 : (whO X tb S).1 77 0 = S.1 77 0 := by
        unfold whO
        split
        · rfl
        · rw [sI_ne (by omega)]
      have o81 : (whO X tb S).1 81 0 = S.1 81 0 := by
        unfold whO
        split
        · rfl
        · rw [sI_ne (by omega)]
      have ko : KnQ S (whO X tb S) (AsR X (tD 22 i e ta tb) S) := fun u s hu hs hs2 => by
        refine ⟨fun w => by rw [o81]; exact w, fun w hp => ?_⟩
        unfold whO
        split
        · exact w
        · rw [sI_v, fi_an, w, fi_xr, fi_m1 (by omega)]
          have : fi (gvA X tb S 0) s = false := by
            cases hg : fi (gvA X tb S 0) s with
            | false => rfl
            | true =>
              exfalso
              rcases (gv_iff (by omega) (fun u hu => by obtain ⟨s, s1, s2⟩ := hv.2.2.1 u hu; exact ⟨s, s1, by have := hv.1; omega⟩) h20 tb 0).mp hg with z | ⟨u', z1, z2, z3⟩
              · rw [fi_0] at z; cases z
              · have : u' = u := hv.2.2.2 u' u z1 hu (by rw [z3, hs])
                rw [this] at z2
                exact hp (as_b (by omega) z2)
          rw [this]
          rfl
      have fc : FR S (cdC X ta (whO X tb S)) := by
        refine fo.on ?_
        obtain ⟨_, g', _, a2, _, a4, _⟩ := fo.2.2.2.1
        refine FR.of ?_ ?_ a2 a4
        · unfold cdC cnT
          split
          · exact (FV.fe (cf ta _)).on (FV.fo FO.fl)
          · exact FV.fe (cf ta _)
        · unfold cdC cnT
          split
          · exact (FP.fe (cf ta _)).on FP.fl
          · exact FP.fe (cf ta _)
      have c77 : (cdC X ta (whO X tb S)).1 77 0 = S.1 77 0 := by rw [cd_77, o77]
      have kc : KnQ S (cdC X ta (whO X tb S)) (AsR X (tD 22 i e ta tb) S) := fun u s hu hs hs2 => by
        rw [cd_8.1, cd_8.2]
        exact ko u s hu hs hs2
      have kk77 : (kwS (cdC X ta (whO X tb S)) (akY X ta (cdC X ta (whO X tb S)))).1 77 0 = S.1 77 0 := by rw [(FO.kw).1 77 (by unfold fO; omega), c77]
      obtain ⟨s1, k1⟩ := ihB 2 _ _ _ _ _ _ 0 0 0 _ hwb gb (hR.fr (kw_fr fc)) (hv.fn (kw_fr fc).1.fn kk77)
      refine ⟨sl rfl s1.1, ?_⟩
      have e0 : stS X it (tD 22 i e ta tb) ys no j S = whC X (stS X it tb) ta tb i S := rfl
      rw [e0]
      unfold whC
      dsimp only
      by_cases c7 : (cdC X ta (whO X tb S)).1 7 0 = 0
      · rw [if_pos c7]
        refine KnQ.kw (fun u s hu hs hs2 => ?_)
        unfold rsS
        rw [sI_ne (by omega), sI_ne (by omega), sI_ne (by omega), sI_v, sI_ne (by omega), sI_ne (by omega), sI_v]
        exact kc u s hu hs hs2
      · rw [if_neg c7]
        exact kc
    rw [if_neg k22] at hw gk
    by_cases k23 : k = 23
    · subst k23
      rw [if_pos rfl] at hw
      obtain ⟨_, ev, _⟩ := hw
      refine ⟨sl rfl (by rw [ev]; exact hv.1), ?_⟩
      exact rt_kn
    rw [if_neg k23] at hw gk
    by_cases k24 : k = 24
    · subst k24
      rw [if_pos (Or.inl rfl)] at hw
      exact ⟨sl rfl (by rw [hw.2.1]; exact hv.1), FE.knq ((cf ta S).tr FE.ni)⟩
    by_cases k25 : k = 25
    · subst k25
      rw [if_pos (Or.inr rfl)] at hw
      exact ⟨sl rfl (by rw [hw.2.1]; exact hv.1), KnQ.sp⟩
    rw [if_neg (by omega)] at hw
    by_cases k30 : k = 30
    · subst k30
      rw [if_pos rfl] at hw
      exact ⟨sl rfl (by rw [hw.2.1]; exact hv.1), FE.knq (cf ta S)⟩
    rw [if_neg k30] at hw
    rw [if_neg (by omega)] at gk
    by_cases k29 : k = 29
    · subst k29
      rw [if_pos rfl] at hw
      exact ⟨sl rfl (by rw [hw.2.1]; exact hv.1), se_kn hv h1⟩
    rw [if_neg k29] at hw gk
    by_cases k26 : k = 26
    · subst k26
      rw [if_pos rfl] at hw gk
      obtain ⟨_, g8, hwa⟩ := hw
      have e0 : stS X it (tD 26 i e ta tb) ys no j S = if 0 ≤ rgQ X S (i + 1) then flT S 2 (nI (xP X (i + 1))) else rgL (stS X it ta 0 0 0 (rgO S (xN X (i + 1)))) (4 + S.1 86 0) := rfl
      have z : ¬ 0 ≤ rgQ X S (i + 1) := fun z => by
        rw [e0, if_pos z] at h1
        exact absurd h1 (flT_bad (by decide))
      obtain ⟨m0, g0, n0, q1, q2, q3, q4, q5, q6, q7, q8, _⟩ := hR.mg
      obtain ⟨fn, o81, o82, o77⟩ := rg_fn (nm := xN X (i + 1)) hS.gg.1 hS.gg.2 (by omega) (by omega)
      have g9 : g9 < 8 ∧ arn S < 40 := rg_room hw9 hN9 hn9 arE
      obtain ⟨s1, k1⟩ := ihA 2 _ _ _ _ _ _ 0 0 0 _ hwa gk (hR.opn hS.gg.1 g9.1 g9.2) (hv.fn fn o77)
      refine ⟨sl rfl s1.1, ?_⟩
      rw [e0, if_neg z]
      have k2 : KnQ S (stS X it ta 0 0 0 (rgO S (xN X (i + 1)))) (AsR X (tD 26 i e ta tb) S) := (KnQ.eq o81 o82).on k1 fn (fun u hu hx => as_a (by omega) (hx.fv fn hu (by unfold vn at h20 ⊢; rw [o77]; omega)))
      intro u s hu hs hs2
      unfold rgL dlS
      rw [sI_ne (by omega), sI_ne (by omega), sI_ne (by omega), sI_ne (by omega), sI_ne (by omega), sI_ne (by omega)]
      exact k2 u s hu hs hs2
    rw [if_neg k26] at hw gk
    by_cases k27 : k = 27
    · subst k27
      rw [if_pos rfl] at hw
      have e0 : stS X it (tD 27 i e ta tb) ys no j S = csC X i S := rfl
      refine ⟨sl rfl (by rw [hw.2.1]; exact hv.1), ?_⟩
      rw [e0] at h1 ⊢
      obtain ⟨c, q0, _, _, _, _, _, _, _, _, e2, _⟩ := cs_ok hR C.2.2 h0 h1
      rw [e2]
      unfold dlS
      exact KnQ.eq (by rw [sI_ne (by omega)]) (by rw [sI_ne (by omega)])
    rw [if_neg k27] at hw
    by_cases k28 : k = 28
    · subst k28
      rw [if_pos rfl] at hw gk
      obtain ⟨_, c, v1, g1, hwa, hwb⟩ := hw
      obtain ⟨ga, gb⟩ := gk
      have e0 : stS X it (tD 28 i e ta tb) ys no j S = trC X (stS X it ta) (stS X it tb) ta i S := rfl
      have h84 : S.1 84 0 = nI (arn S) := by rw [arE]; exact hS.2.2.2.2.2.2.1
      have a40 : arn S < 40 := tr_room hw9 hN9 hn9 arE
      have o : ∀ k, k ≠ 84 → k ≠ 85 → (trO S).1 k = S.1 k := fun k k1 k2 => by unfold trO; rw [sI_ne k1, sI_ne k2]
      have fnO : FN S (trO S) := FN.eq (by rw [o 77 (by omega) (by omega)]) (o 79 (by omega) (by omega)) rfl
      have t77 : (trO S).1 77 0 = S.1 77 0 := by rw [o 77 (by omega) (by omega)]
      obtain ⟨fa, va⟩ := fr_all (it := it) (en := en) hf0 ta 0 0 0 _ ga (hR.tr a40)
      have va := va (blk_of hwa)
      have f3 := FR.tri a40 h84 fa
      have f4 : FR S (rsS (sI (stS X it ta 0 0 0 (trO S)) 84 0 ((stS X it ta 0 0 0 (trO S)).1 84 0 - 1)) (S.1 81 0) (if S.1 83 0 = 0 then S.1 82 0 else S.1 82 0 &&& (gvA X ta S 0 ^^^ (-1))) (S.1 75 0) (S.1 83 0)) := rs_fr f3
      obtain ⟨s1, k1⟩ := ihA 2 _ _ _ _ _ _ 0 0 0 _ hwa ga (hR.tr a40) (hv.fn fnO t77)
      have k2 : KnQ S (stS X it ta 0 0 0 (trO S)) (AsR X (tD 28 i e ta tb) S) := (KnQ.eq (by rw [o 81 (by omega) (by omega)]) (by rw [o 82 (by omega) (by omega)])).on k1 fnO (fun u hu hx => as_a (by omega) (hx.fv fnO hu (by unfold vn at h20 ⊢; rw [t77]; omega)))
      have q77 : (sI (stS X it ta 0 0 0 (trO S)) 84 0 ((stS X it ta 0 0 0 (trO S)).1 84 0 - 1)).1 77 0 = S.1 77 0 := by rw [sI_ne (by omega), va, t77]
      have k3 : KnQ S (sI (stS X it ta 0 0 0 (trO S)) 84 0 ((stS X it ta 0 0 0 (trO S)).1 84 0 - 1)) (AsR X (tD 28 i e ta tb) S) := fun u s hu hs hs2 => by
        rw [sI_ne (by omega), sI_ne (by omega)]
        exact k2 u s hu hs hs2
      have e5 : trM X (stS X it ta) ta S = sI (rsS (sI (stS X it ta 0 0 0 (trO S)) 84 0 ((stS X it ta 0 0 0 (trO S)).1 84 0 - 1)) (S.1 81 0) (if S.1 83 0 = 0 then S.1 82 0 else S.1 82 0 &&& (gvA X ta S 0 ^^^ (-1))) (S.1 75 0) (S.1 83 0)) 87 0 ((rsS (sI (stS X it ta 0 0 0 (trO S)) 84 0 ((stS X it ta 0 0 0 (trO S)).1 84 0 - 1)) (S.1 81 0) (if S.1 83 0 = 0 then S.1 82 0 else S.1 82 0 &&& (gvA X ta S 0 ^^^ (-1))) (S.1 75 0) (S.1 83 0)).1 87 0 + 1) := rfl
      have m77 : (trM X (stS X it ta) ta S).1 77 0 = S.1 77 0 := by rw [e5, sI_ne (by omega), (FO.rs).1 77 (by unfold fO; omega), q77]
      have fnM : FN S (trM X (stS X it ta) ta S) := by
        rw [e5]
        exact f4.1.fn.on (FN.eq (by rw [sI_ne (by omega)]) (by rw [sI_ne (by omega)]) rfl)
      have kM : KnQ S (trM X (stS X it ta) ta S) (AsR X (tD 28 i e ta tb) S) := fun u s hu hs hs2 => by
        rw [e5, sI_ne (by omega), sI_ne (by omega)]
        unfold rsS
        rw [sI_ne (by omega), sI_ne (by omega), sI_ne (by omega), sI_v, sI_ne (by omega), sI_ne (by omega), sI_v]
        refine ⟨fun w => w, fun w hp => ?_⟩
        split
        · exact w
        · rw [fi_an, w, fi_xr, fi_m1 (by omega)]
          have : fi (gvA X ta S 0) s = false := by
            cases hg : fi (gvA X ta S 0) s with
            | false => rfl
            | true =>
              exfalso
              rcases (gv_iff (by omega) (fun u hu => by obtain ⟨s, s1, s2⟩ := hv.2.2.1 u hu; exact ⟨s, s1, by have := hv.1; omega⟩) h20 ta 0).mp hg with z | ⟨u', z1, z2, z3⟩
              · rw [fi_0] at z; cases z
              · have : u' = u := hv.2.2.2 u' u z1 hu (by rw [z3, hs])
                rw [this] at z2
                exact hp (as_a (by omega) z2)
          rw [this]
          rfl
      have rM : RwS en (trM X (stS X it ta) ta S) := by rw [e5]; exact RwS.w87 (hR.fr f4)
      obtain ⟨s4, k4⟩ := ihB 2 _ _ _ _ _ _ 0 0 0 _ hwb gb rM ((hv.fn fnM m77).fv FV.rf rfl (Ws_mo _ _ _ _ _ _ _ _ hwa).2.1 s1.1)
      have k5 : KnQ S (stS X it tb 0 0 0 (trM X (stS X it ta) ta S)) (AsR X (tD 28 i e ta tb) S) := kM.on k4 fnM (fun u hu hx => as_b (by omega) (hx.fv fnM hu (by unfold vn at h20 ⊢; rw [m77]; omega)))
      refine ⟨sl rfl s4.1, ?_⟩
      rw [e5] at k5
      rw [e0]
      unfold trC
      dsimp only
      generalize (if S.1 83 0 = 0 then S.1 82 0 else S.1 82 0 &&& (gvA X ta S 0 ^^^ (-1))) = kz at k5 ⊢
      have k6 : KnQ S (sI (stS X it tb 0 0 0 (sI (rsS (sI (stS X it ta 0 0 0 (trO S)) 84 0 ((stS X it ta 0 0 0 (trO S)).1 84 0 - 1)) (S.1 81 0) kz (S.1 75 0) (S.1 83 0)) 87 0 ((rsS (sI (stS X it ta 0 0 0 (trO S)) 84 0 ((stS X it ta 0 0 0 (trO S)).1 84 0 - 1)) (S.1 81 0) kz (S.1 75 0) (S.1 83 0)).1 87 0 + 1))) 87 0 ((stS X it tb 0 0 0 (sI (rsS (sI (stS X it ta 0 0 0 (trO S)) 84 0 ((stS X it ta 0 0 0 (trO S)).1 84 0 - 1)) (S.1 81 0) kz (S.1 75 0) (S.1 83 0)) 87 0 ((rsS (sI (stS X it ta 0 0 0 (trO S)) 84 0 ((stS X it ta 0 0 0 (trO S)).1 84 0 - 1)) (S.1 81 0) kz (S.1 75 0) (S.1 83 0)).1 87 0 + 1))).1 87 0 - 1)) (AsR X (tD 28 i e ta tb) S) := fun u s hu hs hs2 => by
        rw [sI_ne (by omega), sI_ne (by omega)]
        exact k5 u s hu hs hs2
      split
      · split
        · exact KnQ.mt k6 k3 rfl rfl
        · exact k6
      · exact k3
    rw [if_neg k28] at hw
    exact hw.elim
end SUG
