/-! places of the code: a REGION */
-/
section SUT
variable {v0 n0 : Nat} {M0 T0 S S' S1 S2 S3 Sf : gSt} {X : Lx} {it e v g n n' n2 m m' m2 k i q c en j a b v' g' dd dd' u s n1 B L p nx mx : Nat} {t ta tb : Tr} {x y r w ys no b0 t1 pl' z0 : Int32} {nm : Int64} {st st' s0 : List Int32} {hs : List HD} {jj : T5} {ks js : List T5}
theorem vw_eq (e77 : S'.1 77 0 = S.1 77 0) (e79 : S'.1 79 = S.1 79) (e80 : S'.1 80 = S.1 80) (e81 : S'.1 81 0 = S.1 81 0) (e82 : S'.1 82 0 = S.1 82 0) : ∀ u s, vaP S' u s → vaP S u s ∧ S.1 80 u = S'.1 80 u ∧ slV Sf S u = slV Sf S' u ∧ (fi (S'.1 82 0) s = true → fi (S.1 82 0) s = true) := fun u s ⟨a1, a2, a3, a4, a5⟩ => by
  have ev : vn S' = vn S := by unfold vn; rw [e77]
  have sv : ∀ w, slV Sf S w = slV Sf S' w := by
    intro w
    induction w with
    | zero => rfl
    | succ w ih => rw [slV, slV, ih, e80]
  rw [e79] at a2
  rw [e81] at a4
  exact ⟨⟨by omega, a2, a3, a4, a5⟩, by rw [e80], sv u, fun w => by rw [e82] at w; exact w⟩
theorem lv_rgO (hg : S.1 86 0 = nI g) (g8 : g ≤ 8) (hr : rn S < 50) (ha : arn S < 90) : ∀ x, ¬ x = nI (4 + g) → (x = -1 ∨ ∃ b, x = nI b ∧ b < 12) → isLv (rgO S nm) x = isLv S x := fun x hx hc => by
  obtain ⟨r1, r2, r3, r4, r5, r6, r7, r8, r9, r10, r11⟩ := rgO_w (nm := nm) hg g8 hr ha
  rcases hc with hc | ⟨b, hc, b12⟩
  · rw [hc, isLv_m1, isLv_m1]
    exact isLv_ex (by omega) (by rw [r9 31 (by omega), if_neg (by omega)])
  · rw [hc]
    exact isLv_ex (by omega) (by rw [r9 b (by omega), if_neg (fun z => hx (by rw [hc, z]))])
theorem JS.opn (h : JS Sf it dd S hs) (hg : S.1 86 0 = nI g) (g8 : g < 8) (hn : arn S < 40) (hd : dd + 1 ≤ 20) : JS Sf it (dd + 1) (rgO S nm) hs := by
  obtain ⟨m0, g0, n0, e1, e2, e3, e4, e5, e6, e7, e8, e9, e10, e11⟩ := h.1.mg
  have eg : g0 = g := nI_inj (by omega) (by omega) (by rw [← e3, hg])
  subst eg
  have ea : arn S = n0 := by unfold arn; rw [e4, nc (by omega)]
  have lv := lv_rgO (nm := nm) hg (by omega) (by omega) (by omega)
  obtain ⟨r1, r2, r3, r4, r5, r6, r7, r8, r9, r10, r11⟩ := rgO_w (nm := nm) hg (by omega) (by omega) (by omega)
  have ev : vn (rgO S nm) = vn S := by unfold vn; rw [r10 77 (by omega) (by omega) (by omega) (by omega) (by omega) (by omega) (by omega)]
  obtain ⟨j1, j2, ⟨c, j3, j4⟩, j5, j6, j7, j8, j9, j10⟩ := h
  refine ⟨j1.opn hg g8 hn, fun u hu => ?_, ⟨c, by rw [r10 87 (by omega) (by omega) (by omega) (by omega) (by omega) (by omega) (by omega)]; exact j3, by omega⟩, hd, ?_, by omega, fun x hx => ?_, fun x hx => ?_, j10⟩
  · rw [r10 80 (by omega) (by omega) (by omega) (by omega) (by omega) (by omega) (by omega)]
    refine TyOf.mo (j2 u (by omega)) (fun c hc => ?_)
    rcases hc with w | ⟨c12, k, k1, k2⟩
    · exact Or.inl w
    · exact Or.inr ⟨c12, k, by omega, by rw [r6, if_neg (by omega)]; exact k2⟩
  · rw [r4, trc, r7, if_pos rfl, if_neg (fun w => nI_neg1 (by omega) w.symm), trc_ee (S := S) (n := arn S) (fun q hq => by rw [r7, if_neg (by omega)]) _ (Nat.le_refl _)]
    exact j6
  · obtain ⟨⟨p1, p2, p3, p4, p5, p6, p7⟩, h2, h3⟩ := j8 x hx
    refine ⟨⟨by omega, fun k hk => by rw [r6, if_neg (by omega)]; exact p2 k hk, by omega, fun q hq => ?_, fun c hc => by rw [lv (nI c) (fun w => by have := nI_inj (by omega) (by omega) w; omega) (Or.inr ⟨c, rfl, by omega⟩)]; exact p5 c hc, by rw [r10 76 (by omega) (by omega) (by omega) (by omega) (by omega) (by omega) (by omega)]; exact p6, by rw [r10 87 (by omega) (by omega) (by omega) (by omega) (by omega) (by omega) (by omega)]; exact p7⟩, by omega, by rw [r7, if_neg (by omega)]; exact h3⟩
    rw [r7, if_neg (by omega)]
    refine ⟨(p4 q hq).1, ?_⟩
    rw [lv (S.1 85 q) ?_ ?_]
    · exact (p4 q hq).2
    · rcases e10 q (by omega) with w | ⟨b, w, b4, b12⟩
      · rw [w]; exact nI_neg1 (by omega)
      · rw [w]; exact fun z => by have := nI_inj (by omega) (by omega) z; omega
    · rcases e10 q (by omega) with w | ⟨b, w, b4, b12⟩
      · exact Or.inl w
      · exact Or.inr ⟨b, w, by omega⟩
  · obtain ⟨a1, a2⟩ := j9 x hx
    refine ⟨by omega, fun u hu => ?_⟩
    rw [r10 79 (by omega) (by omega) (by omega) (by omega) (by omega) (by omega) (by omega), r10 80 (by omega) (by omega) (by omega) (by omega) (by omega) (by omega) (by omega), r11 78 (by omega)]
    exact a2 u hu
theorem rg_ent (h : RwS en S) (hg : S.1 86 0 = nI g) (g8 : g < 8) (hn : arn S < 40) : EntS Sf S (rgO S nm) en (4 + g) (opR en S) := by
  obtain ⟨m0, g0, n0, e1, e2, e3, e4, e5, e6, e7, e8, e9, e10, e11⟩ := h.mg
  have eg : g0 = g := nI_inj (by omega) (by omega) (by rw [← e3, hg])
  subst eg
  have ea : arn S = n0 := by unfold arn; rw [e4, nc (by omega)]
  have lv := lv_rgO (nm := nm) hg (by omega) (by omega) (by omega)
  obtain ⟨r1, r2, r3, r4, r5, r6, r7, r8, r9, r10, r11⟩ := rgO_w (nm := nm) hg (by omega) (by omega) (by omega)
  have b8 : ∀ q, q < arn S → S.1 85 q = -1 ∨ ∃ b, S.1 85 q = nI b ∧ b < 12 := fun q hq => by
    rcases e10 q (by omega) with w | ⟨b, w, b4, b12⟩
    · exact Or.inl w
    · exact Or.inr ⟨b, w, by omega⟩
  refine ⟨⟨by omega, by omega, r2, fun k hk => by rw [r6, if_neg (by omega)], by rw [r6, if_pos rfl], by unfold opR; omega, by omega, by unfold opR; omega⟩, ⟨r4, by rw [r7, if_pos rfl], fun q hq => ⟨by rw [r7, if_neg (by omega)], ?_⟩⟩, ?_, lv, by rw [r10 76 (by omega) (by omega) (by omega) (by omega) (by omega) (by omega) (by omega)], by rw [r10 87 (by omega) (by omega) (by omega) (by omega) (by omega) (by omega) (by omega)], ?_, b8, vw_eq (by rw [r10 77 (by omega) (by omega) (by omega) (by omega) (by omega) (by omega) (by omega)]) (r10 79 (by omega) (by omega) (by omega) (by omega) (by omega) (by omega) (by omega)) (r10 80 (by omega) (by omega) (by omega) (by omega) (by omega) (by omega) (by omega)) (by rw [r10 81 (by omega) (by omega) (by omega) (by omega) (by omega) (by omega) (by omega)]) (by rw [r10 82 (by omega) (by omega) (by omega) (by omega) (by omega) (by omega) (by omega)])⟩
  · rcases e10 q (by omega) with w | ⟨b, w, b4, b12⟩
    · rw [w]; exact nI_neg1 (by omega)
    · rw [w]; exact fun z => by have := nI_inj (by omega) (by omega) z; omega
  · rw [isLv_fi (by omega), r9 (4 + g0) (by omega), if_pos rfl]
    exact fun w => Bool.noConfusion w
  · rintro (w | ⟨_, k, k1, k2⟩)
    · omega
    · by_cases c : k < en
      · rw [e9 k c] at k2
        have := nI_inj (by omega) (by omega) k2
        omega
      · obtain ⟨c', w1, w2, w3⟩ := e11 (k - en) (by omega)
        rw [show en + (k - en) = k by omega, k2] at w1
        have := nI_inj (by omega) (by omega) w1
        omega
theorem gd_26 (cx : CxP M0 T0 Sf) (hf0 : Sf.1 7 0 = 0) (ihA : GdQ M0 T0 Sf X it n1 ta) (hw : Ws X (tD 26 i e ta tb) 0 a b v g v' g') (hg : SG X (tD 26 i e ta tb) dd 0) (gk : Gk X it Sf (tD 26 i e ta tb) ys no j S) (hR : CdS X it M0 (tD 26 i e ta tb) ys no S n n') (hT : KdS X it (eN Sf it) Sf T0 (tD 26 i e ta tb) ys no S m m') (pl : PlH T0 Sf it n1 dd v S hs n' m') (kv : KvP X (tD 26 i e ta tb) hs) (cont : (stS X it (tD 26 i e ta tb) ys no j S).1 83 0 = 1 → Gdk M0 T0 Sf n1 it k n' m' (stS X it (tD 26 i e ta tb) ys no j S) [] hs) : Gdk M0 T0 Sf n1 it k n m S [] hs := by
  obtain ⟨hC, hF, hC', hF', h7', h0, _, _⟩ := gk_ck cx.2.1 hf0 gk
  rw [Gk_n] at gk
  obtain ⟨⟨m9, a9, b9, v9, g9, v9', g9', n9, N9, hw9, hb9, hN9, hn9, hS⟩, _, _, gk⟩ := gk
  unfold GkN at gk
  rw [if_neg (by decide), if_neg (by decide), if_neg (by decide), if_neg (by decide), if_neg (by decide), if_neg (by decide), if_neg (by decide), if_pos (by decide)] at gk
  have n41 : n9 ≤ 41 := by
    have : bL m9 ≤ 41 := by unfold bL; split <;> omega
    omega
  have room := rg_room hw9 hN9 hn9 (hS.ar (by omega))
  obtain ⟨g8, a40⟩ := room
  rw [Ws_n] at hw
  unfold WsN at hw
  rw [if_neg (by omega), if_neg (by omega), if_neg (by omega), if_neg (by decide), if_neg (by decide), if_neg (by decide), if_neg (by decide), if_neg (by decide), if_neg (by decide), if_neg (by decide), if_pos rfl] at hw
  obtain ⟨_, _, hwa⟩ := hw
  obtain ⟨_, sa⟩ : xK X (i + 1) = 4 ∧ SG X ta (dd + 1) 2 := hg
  have d20 : dd + 1 ≤ 20 := by
    obtain ⟨i2, e2, ta2, tb2, rfl⟩ := tr_of hwa
    obtain ⟨_, _, _, z⟩ : 31 = 31 ∧ SG X ta2 (dd + 1) 1 ∧ 1 ≤ dd + 1 ∧ dd + 1 ≤ 20 := sa
    exact z
  obtain ⟨l0, r1, q, q1, q2, r2, r3, ca⟩ : n < n' ∧ rwC4 M0 n = (0, nI (xP X i), 0, 0) ∧ ∃ q, n + 2 ≤ q ∧ n' = q + 1 ∧ rwC4 M0 (n + 1) = (31, 4 + S.1 86 0, 0, 0) ∧ rwC4 M0 q = (32, 4 + S.1 86 0, 0, 0) ∧ CdS X it M0 ta 0 0 (rgO S (xN X (i + 1))) (n + 2) q := hR
  obtain ⟨l1, t1, r, s1, s2, t2, ka, t3⟩ : m < m' ∧ cw3 T0 m = (1, nI (xP X i), 0) ∧ ∃ q, m + 2 ≤ q ∧ q ≤ m' ∧ cw3 T0 (m + 1) = (52, nI (opR (eN Sf it) S), 0) ∧ KdS X it (eN Sf it) Sf T0 ta 0 0 (rgO S (xN X (i + 1))) (m + 2) q ∧ (if isLv (stS X it ta 0 0 0 (rgO S (xN X (i + 1)))) (4 + S.1 86 0) = 0 then m' = q else cw3 T0 q = (53, nI (opR (eN Sf it) S), 0) ∧ m' = q + 1) := hT
  have pl0 := pl
  obtain ⟨js, sl, hdd, r83, hj, ln, lm, ps⟩ := pl
  have iv := pl0.iv hC hF cx.2.1
  obtain ⟨m0, g0, n0, e1, e2, e3, e4, e5, e6, e7, e8, e9, e10, e11⟩ := js.1.mg
  have eg : g0 = g9 := nI_inj (by omega) (by have := hS.gg.2; omega) (by rw [← e3, hS.gg.1])
  subst eg
  have ea : arn S = n0 := by unfold arn; rw [e4, nc (by omega)]
  have q4 : (4 : Int32) + S.1 86 0 = nI (4 + g0) := by rw [e3]; exact (Int32.ofNat_add _ _).symm
  rw [q4] at r2 r3 t3
  obtain ⟨fn, o81, o82, o77⟩ := rg_fn (nm := xN X (i + 1)) e3 (by omega) (by omega) (by omega)
  obtain ⟨w1, w2, w3, w4, w5, w6, w7, w8, w9, w10, w11⟩ := rgO_w (nm := xN X (i + 1)) e3 (by omega) (by omega) (by omega)
  have jo := js.opn (nm := xN X (i + 1)) e3 g8 a40 d20
  have so := sl.fn fn o77
  have e0 : stS X it (tD 26 i e ta tb) ys no j S = if 0 ≤ rgQ X S (i + 1) then flT S 2 (nI (xP X (i + 1))) else rgL (stS X it ta 0 0 0 (rgO S (xN X (i + 1)))) (4 + S.1 86 0) := rfl
  have nq : ¬ 0 ≤ rgQ X S (i + 1) := fun z => by
    rw [e0, if_pos z] at h7'
    exact flT_bad (by decide) h7'
  rw [q4] at e0
  rw [e0, if_neg nq] at cont hC' hF' h7'
  obtain ⟨fa, va⟩ := fr_all (it := it) (en := eN Sf it) hf0 ta 0 0 0 _ gk jo.1
  have va := va (blk_of hwa)
  have frL : FR S (rgL (stS X it ta 0 0 0 (rgO S (xN X (i + 1)))) (nI (4 + g0))) := by have := FR.rg (nm := xN X (i + 1)) js.1 e3 g8 a40 fa; rw [q4] at this; exact this
  have j2 := jo.fr fa va
  obtain ⟨c2, f2⟩ := ckf_of cx hf0 hwa gk
  have s2' := so.fn fa.1.fn va
  have vw2 : VwS Sf (stS X it ta 0 0 0 (rgO S (xN X (i + 1)))) := vw_of j2.2.1 s2' c2 f2 cx.2.1
  have iv2 := j2.iv2 vw2
  have p : ∀ k, k ≠ 84 → k ≠ 71 → k ≠ 75 → (rgL (stS X it ta 0 0 0 (rgO S (xN X (i + 1)))) (nI (4 + g0))).1 k = (stS X it ta 0 0 0 (rgO S (xN X (i + 1)))).1 k := fun k k1 k2 k3 => by unfold rgL dlS; rw [sI_ne k3, sI_ne k2, sI_ne k1]
  have p75 : ∀ c, c < 32 → fi ((rgL (stS X it ta 0 0 0 (rgO S (xN X (i + 1)))) (nI (4 + g0))).1 75 0) c = if c = 4 + g0 then false else fi ((stS X it ta 0 0 0 (rgO S (xN X (i + 1)))).1 75 0) c := fun c hc => by
    unfold rgL dlS
    rw [sI_v, fi_of (by omega) hc, sI_ne (by omega), sI_ne (by omega)]
  have l77 : (rgL (stS X it ta 0 0 0 (rgO S (xN X (i + 1)))) (nI (4 + g0))).1 77 0 = S.1 77 0 := by rw [p 77 (by omega) (by omega) (by omega), va, o77]
  have jL := js.fr frL l77
  have ivL := jL.iv (sl.fn frL.1.fn l77) hC' hF' cx.2.1
  have rnL : rn (rgL (stS X it ta 0 0 0 (rgO S (xN X (i + 1)))) (nI (4 + g0))) = rn S := by unfold rn; rw [frL.1.1]
  have arL : arn (rgL (stS X it ta 0 0 0 (rgO S (xN X (i + 1)))) (nI (4 + g0))) = arn S := by unfold arn; rw [frL.1.2.2.1]
  have rn2 : rn (stS X it ta 0 0 0 (rgO S (xN X (i + 1)))) = rn S + 1 := by rw [← w2]; unfold rn; rw [fa.1.1]
  have ar2 : arn (stS X it ta 0 0 0 (rgO S (xN X (i + 1)))) = arn S + 1 := by rw [← w4]; unfold arn; rw [fa.1.2.2.1]
  have t85 : ∀ q, q < arn S + 1 → (stS X it ta 0 0 0 (rgO S (xN X (i + 1)))).1 85 q = if q = arn S then nI (4 + g0) else S.1 85 q := fun q hq => by rw [fa.1.2.2.2.1 q (by omega), w7]
  have b85 : ∀ q, q < arn (stS X it ta 0 0 0 (rgO S (xN X (i + 1)))) → (stS X it ta 0 0 0 (rgO S (xN X (i + 1)))).1 85 q = -1 ∨ ∃ b, (stS X it ta 0 0 0 (rgO S (xN X (i + 1)))).1 85 q = nI b ∧ b < 12 := fun q hq => by
    rw [t85 q (by omega)]
    by_cases c : q = arn S
    · rw [if_pos c]; exact Or.inr ⟨_, rfl, by omega⟩
    · rw [if_neg c]
      rcases e10 q (by omega) with w | ⟨b, w, b4, b12⟩
      · exact Or.inl w
      · exact Or.inr ⟨b, w, by omega⟩
  have u85 : ∀ q, q < arn (stS X it ta 0 0 0 (rgO S (xN X (i + 1)))) → (stS X it ta 0 0 0 (rgO S (xN X (i + 1)))).1 85 q = nI (4 + g0) → q = arn S := fun q hq w => by
    refine Decidable.byContradiction fun z => ?_
    rw [t85 q (by omega), if_neg z] at w
    rcases e10 q (by omega) with w' | ⟨b, w', b4, b12⟩
    · exact nI_neg1 (by omega) (w'.symm.trans w)
    · have := nI_inj (by omega) (by omega) (w'.symm.trans w)
      omega
  -- LEAVE, from a state that is as S2 but for LIVE
  have lvs : ∀ S1 : gSt, (∀ k, k ≠ 75 → S1.1 k = (stS X it ta 0 0 0 (rgO S (xN X (i + 1)))).1 k) → (∀ c, c < 32 → fi (S1.1 75 0) c = if c = 4 + g0 then false else fi ((stS X it ta 0 0 0 (rgO S (xN X (i + 1)))).1 75 0) c) → LvsS Sf S1 (rgL (stS X it ta 0 0 0 (rgO S (xN X (i + 1)))) (nI (4 + g0))) (4 + g0) := fun S1 h1 h2 => by
    have r1 : rn S1 = rn S + 1 := by rw [← rn2]; unfold rn; rw [h1 71 (by omega)]
    have a1 : arn S1 = arn S + 1 := by rw [← ar2]; unfold arn; rw [h1 84 (by omega)]
    have ex : ∀ c, c < 32 → isLv (rgL (stS X it ta 0 0 0 (rgO S (xN X (i + 1)))) (nI (4 + g0))) (nI c) = isLv S1 (nI c) := fun c hc => isLv_ex hc (by rw [p75 c hc, h2 c hc])
    refine ⟨⟨by omega, fun k hk => by rw [p 73 (by omega) (by omega) (by omega), h1 73 (by omega)], by omega, fun q hq => ⟨by rw [p 85 (by omega) (by omega) (by omega), h1 85 (by omega)], ?_⟩, fun c hc => ex c (by omega), by rw [p 76 (by omega) (by omega) (by omega), h1 76 (by omega)]⟩, by omega, by rw [h1 85 (by omega), arL, t85 _ (by omega), if_pos rfl], by omega, by omega, (isLv_fi (by omega)).mpr (by rw [h2 _ (by omega), if_pos rfl]), by rw [p 87 (by omega) (by omega) (by omega), h1 87 (by omega)], vw_eq (by rw [p 77 (by omega) (by omega) (by omega), h1 77 (by omega)]) (by rw [p 79 (by omega) (by omega) (by omega), h1 79 (by omega)]) (by rw [p 80 (by omega) (by omega) (by omega), h1 80 (by omega)]) (by rw [p 81 (by omega) (by omega) (by omega), h1 81 (by omega)]) (by rw [p 82 (by omega) (by omega) (by omega), h1 82 (by omega)])⟩
    rw [h1 85 (by omega)]
    rcases b85 q (by omega) with w | ⟨b, w, b12⟩
    · rw [w, isLv_m1, isLv_m1, ex 31 (by omega)]
    · rw [w, ex b (by omega)]
  refine gd_stp iv (by omega) (by omega) (ps.le (by omega) (by omega)) r1 t1 ?_
  refine gd_ru iv (by omega) (by omega) (ps.le (by omega) (by omega)) (fun k' hk' => Or.inr (Or.inr (Or.inr (Or.inr (Or.inr (Or.inr (Or.inr (Or.inr (Or.inr (Or.inr (Or.inr (Or.inr (Or.inr (Or.inr (Or.inr (Or.inl ⟨4 + g0, opR (eN Sf it) S, 0, 0, 0, (rgO S (xN X (i + 1))), r2, t2, rfl, rg_ent js.1 e3 g8 a40, jo.iv2 ?_, ?_⟩))))))))))))))))
  · refine ⟨fun u hu => ?_, by have := so.2.1; exact this, so.2.2.2, fun u hu => ⟨?_, jo.2.1 u hu⟩, fun u hu => ?_⟩
    · obtain ⟨s, s1, s2⟩ := so.2.2.1 u hu
      exact ⟨s, s1, by have := so.1; omega⟩
    · rw [w10 80 (by omega) (by omega) (by omega) (by omega) (by omega) (by omega) (by omega)]
      exact (iv.1.2.2.2.1 u (by unfold vn at hu ⊢; rw [← o77]; exact hu)).1
    · have z := iv.1.2.2.2.2 u (by unfold vn at hu ⊢; rw [← o77]; exact hu)
      have y1 : ∀ w, slV Sf (rgO S (xN X (i + 1))) w = slV Sf S w := by
        intro w
        induction w with
        | zero => rfl
        | succ w ih => rw [slV, slV, ih, w10 80 (by omega) (by omega) (by omega) (by omega) (by omega) (by omega) (by omega)]
      have y2 : ∀ w, slW (rgO S (xN X (i + 1))) w = slW S w := by
        intro w
        induction w with
        | zero => rfl
        | succ w ih =>
          rw [slW, slW, ih, w10 80 (by omega) (by omega) (by omega) (by omega) (by omega) (by omega) (by omega)]
          unfold wS isRo
          rw [w10 66 (by omega) (by omega) (by omega) (by omega) (by omega) (by omega) (by omega)]
      rw [y1, y2]; exact z
  have hjo : Sf.2 16 = (rgO S (xN X (i + 1))).2 16 ∧ Sf.2 32 = (rgO S (xN X (i + 1))).2 32 := by rw [w11 16 (by omega), w11 32 (by omega)]; exact hj
  have ro : (rgO S (xN X (i + 1))).1 83 0 = 1 := by rw [w10 83 (by omega) (by omega) (by omega) (by omega) (by omega) (by omega) (by omega)]; exact r83
  refine (ihA 2 _ _ v _ v' g' (dd + 1) 0 0 0 (rgO S (xN X (i + 1))) (n + 2) q (m + 2) r k' hs hwa sa gk ca ka ⟨jo, so, by omega, ro, hjo, by omega, by omega, ps.le (by omega) (by omega)⟩ (kv.sub (fun S u h => as_a (by omega) h)) (fun h83 => ?_)).1 (by omega)
  have k83 : (rgL (stS X it ta 0 0 0 (rgO S (xN X (i + 1)))) (nI (4 + g0))).1 83 0 = 1 := by rw [p 83 (by omega) (by omega) (by omega)]; exact h83
  have ct := (cont k83).le (j := k') (by omega)
  subst q2
  by_cases dl : isLv (stS X it ta 0 0 0 (rgO S (xN X (i + 1)))) (nI (4 + g0)) = 0
  · rw [if_pos dl] at t3
    subst t3
    have z := (isLv_fi (by omega)).mp dl
    refine gd_ru iv2 (by omega) (by omega) (ps.le (by omega) (by omega)) (fun j hj => Or.inr (Or.inr (Or.inr (Or.inr (Or.inr (Or.inr (Or.inr (Or.inr (Or.inr (Or.inr (Or.inr (Or.inr (Or.inr (Or.inr (Or.inr (Or.inr (Or.inr (Or.inr (Or.inl ⟨4 + g0, 0, 0, (rgL (stS X it ta 0 0 0 (rgO S (xN X (i + 1)))) (nI (4 + g0))), r3, lvs _ (fun _ _ => rfl) (fun c hc => ?_), rfl, ivL, ct.le (by omega)⟩)))))))))))))))))))
    by_cases zc : c = 4 + g0
    · rw [if_pos zc, zc]; exact z
    · rw [if_neg zc]
  · rw [if_neg dl] at t3
    obtain ⟨t4, t5⟩ := t3
    subst t5
    have o : ∀ k, k ≠ 75 → (dlS (stS X it ta 0 0 0 (rgO S (xN X (i + 1)))) (nI (4 + g0))).1 k = (stS X it ta 0 0 0 (rgO S (xN X (i + 1)))).1 k := fun k hk => by unfold dlS; rw [sI_ne hk]
    have o75 : ∀ c, c < 32 → fi ((dlS (stS X it ta 0 0 0 (rgO S (xN X (i + 1)))) (nI (4 + g0))).1 75 0) c = if c = 4 + g0 then false else fi ((stS X it ta 0 0 0 (rgO S (xN X (i + 1)))).1 75 0) c := fun c hc => by
      unfold dlS
      rw [sI_v, fi_of (by omega) hc]
    obtain ⟨_, g2, n2, _, _, y3, y4, _, y6, _⟩ := j2.1.mg
    have ex : ∀ x, ¬ x = nI (4 + g0) → (x = -1 ∨ ∃ b, x = nI b ∧ b < 12) → isLv (dlS (stS X it ta 0 0 0 (rgO S (xN X (i + 1)))) (nI (4 + g0))) x = isLv (stS X it ta 0 0 0 (rgO S (xN X (i + 1)))) x := fun x hx hc => by
      rcases hc with hc | ⟨b, hc, b12⟩
      · rw [hc, isLv_m1, isLv_m1]
        exact isLv_ex (by omega) (by rw [o75 31 (by omega), if_neg (by omega)])
      · rw [hc]
        exact isLv_ex (by omega) (by rw [o75 b (by omega), if_neg (fun z => hx (by rw [hc, z]))])
    have fd : FR (stS X it ta 0 0 0 (rgO S (xN X (i + 1)))) (dlS (stS X it ta 0 0 0 (rgO S (xN X (i + 1)))) (nI (4 + g0))) := by
      refine ⟨FV.fo FO.dl, by rw [o 76 (by omega)], by rw [o 87 (by omega)], ⟨g2, g2, y3, by rw [o 86 (by omega)]; exact y3, Nat.le_refl _, y6, fun c _ => by rw [o 74 (by omega)]⟩, fun b hb w => ?_, fun b hb => ?_, fun q1 q h2 h3 h4 => ?_⟩
      · rw [o75 b hb] at w
        split at w
        · cases w
        · exact w
      · rw [o75 b (by omega), if_neg (by omega)]
      · exact ex _ (fun w => by have := u85 q (by omega) w; omega) (b85 q (by omega))
    have iv1 : IvP Sf it (dlS (stS X it ta 0 0 0 (rgO S (xN X (i + 1)))) (nI (4 + g0))) [] hs := (j2.fr fd (by rw [o 77 (by omega)])).iv2 (vw2.fv fd.1 (by rw [o 77 (by omega)]) (o 66 (by omega)))
    have sh : ShtS Sf (stS X it ta 0 0 0 (rgO S (xN X (i + 1)))) (dlS (stS X it ta 0 0 0 (rgO S (xN X (i + 1)))) (nI (4 + g0))) (4 + g0) (arn S) := by
      refine ⟨⟨by unfold rn; rw [o 71 (by omega)], fun k _ => by rw [o 73 (by omega)], by unfold arn; rw [o 84 (by omega)], fun q _ => by rw [o 85 (by omega)], by rw [o 76 (by omega)], by rw [o 87 (by omega)]⟩, ⟨by omega, by omega, by omega, by rw [t85 _ (by omega), if_pos rfl], dl, (isLv_fi (by omega)).mpr (by rw [o75 _ (by omega), if_pos rfl])⟩, ex, b85, u85, fun q b h1 h2 => by omega, vw_eq (by rw [o 77 (by omega)]) (o 79 (by omega)) (o 80 (by omega)) (by rw [o 81 (by omega)]) (by rw [o 82 (by omega)])⟩
    have rg : RgE (eN Sf it) (stS X it ta 0 0 0 (rgO S (xN X (i + 1)))) (4 + g0) (opR (eN Sf it) S) := by
      refine Or.inr ⟨m0, by omega, by omega, ?_, by omega, by omega, by unfold opR; omega⟩
      rw [fa.1.2.1 _ (by omega), w6, if_pos (by omega)]
    exact gd_ru iv2 (by omega) (by omega) (ps.le (by omega) (by omega)) (fun j hj => Or.inr (Or.inr (Or.inr (Or.inr (Or.inr (Or.inr (Or.inr (Or.inr (Or.inr (Or.inr (Or.inr (Or.inr (Or.inr (Or.inr (Or.inr (Or.inr (Or.inr (Or.inl ⟨4 + g0, opR (eN Sf it) S, arn S, 0, 0, 0, dlS (stS X it ta 0 0 0 (rgO S (xN X (i + 1)))) (nI (4 + g0)), (rgL (stS X it ta 0 0 0 (rgO S (xN X (i + 1)))) (nI (4 + g0))), r3, t4, rfl, sh, rg, iv1, lvs _ o o75, ivL, ct.le (by omega)⟩))))))))))))))))))
end SUT
