/-! places of the code: try and catch */
-/
section SUU
variable {v0 n0 : Nat} {M0 T0 S S' S1 S2 S3 Sf Sh : gSt} {X : Lx} {it e v g n n' n2 m m' m2 k i q c en j a b v' g' dd dd' u s n1 B L p nx mx hx hy : Nat} {t ta tb : Tr} {x y r w ys no b0 t1 pl' z0 : Int32} {nm : Int64} {st st' s0 : List Int32} {hs : List HD} {jj : T5} {ks js : List T5}
theorem VwS.ex (h : VwS Sf S) (e : ∀ k, k = 66 ∨ k = 71 ∨ k = 73 ∨ k = 77 ∨ k = 79 ∨ k = 80 → S'.1 k = S.1 k) : VwS Sf S' := by
  obtain ⟨a1, a2, a3, a4, a5⟩ := h
  have ev : vn S' = vn S := by unfold vn; rw [e 77 (by omega)]
  have sg : ∀ c, sght S c → sght S' c := fun c hc => by
    rcases hc with w | ⟨c12, k, k1, k2⟩
    · exact Or.inl w
    · exact Or.inr ⟨c12, k, by unfold rn at k1 ⊢; rw [e 71 (by omega)]; exact k1, by rw [e 73 (by omega)]; exact k2⟩
  have y1 : ∀ w, slV Sf S' w = slV Sf S w := by
    intro w
    induction w with
    | zero => rfl
    | succ w ih => rw [slV, slV, ih, e 80 (by omega)]
  have y2 : ∀ w, slW S' w = slW S w := by
    intro w
    induction w with
    | zero => rfl
    | succ w ih =>
      rw [slW, slW, ih, e 80 (by omega)]
      unfold wS isRo
      rw [e 66 (by omega)]
  refine ⟨fun u hu => by rw [e 79 (by omega)]; exact a1 u (by omega), by omega, fun a b ha hb => by rw [e 79 (by omega)]; exact a3 a b (by omega) (by omega), fun u hu => by rw [e 80 (by omega)]; exact ⟨(a4 u (by omega)).1, TyOf.mo (a4 u (by omega)).2 sg⟩, fun u hu => by rw [y1, y2]; exact a5 u (by omega)⟩
theorem fv_87 : FV S (sI S 87 0 x) := by
  have o : ∀ k, k ≠ 87 → (sI S 87 0 x).1 k = S.1 k := fun k hk => sI_ne hk
  exact ⟨by rw [o 71 (by omega)], fun k _ => by rw [o 73 (by omega)], by rw [o 84 (by omega)], fun q _ => by rw [o 85 (by omega)], by unfold vn; rw [o 77 (by omega)]; exact Nat.le_refl _, fun u _ => ⟨by rw [o 79 (by omega)], by rw [o 80 (by omega)], rfl⟩, o 12 (by omega)⟩
theorem vw_fv (fv : FV S S') (hv : vn S' ≤ vn S) (h81 : S'.1 81 0 = S.1 81 0) (h82 : ∀ s, s < 20 → fi (S'.1 82 0) s = true → fi (S.1 82 0) s = true) : ∀ u s, vaP S' u s → vaP S u s ∧ S.1 80 u = S'.1 80 u ∧ slV Sf S u = slV Sf S' u ∧ (fi (S'.1 82 0) s = true → fi (S.1 82 0) s = true) := fun u s ⟨a1, a2, a3, a4, a5⟩ => by
  obtain ⟨c1, c2, _⟩ := fv.2.2.2.2.2.1 u (by omega)
  exact ⟨⟨by omega, by rw [← c1]; exact a2, a3, by rw [← h81]; exact a4, a5⟩, c2.symm, (slV_fv fv u (by omega)).symm, h82 s a3⟩
theorem wt_87 (h : S.1 87 0 = nI (c + 1)) (h2 : c + 1 ≤ 20) : WkT Sf S (sI S 87 0 (S.1 87 0 - 1)) := by
  have o : ∀ k, k ≠ 87 → (sI S 87 0 (S.1 87 0 - 1)).1 k = S.1 k := fun k hk => sI_ne hk
  exact ⟨⟨by unfold rn; rw [o 71 (by omega)], fun k _ => by rw [o 73 (by omega)], by rw [o 84 (by omega)], fun q _ => by rw [o 85 (by omega)], by rw [o 75 (by omega)], by rw [o 76 (by omega)], Or.inr ⟨c, c + 1, by rw [sI_v, h, nI_sub], h, by omega, h2⟩⟩, vw_eq (by rw [o 77 (by omega)]) (o 79 (by omega)) (o 80 (by omega)) (by rw [o 81 (by omega)]) (by rw [o 82 (by omega)])⟩
theorem ck0_of (cx : CxP M0 T0 Sf) (hf0 : Sf.1 7 0 = 0) (hw : Ws X t 2 a b v g v' g') (gk : Gk X it Sf t ys no j S) : Ck S ∧ FW S Sf := by
  obtain ⟨i, e, ta, tb, rfl⟩ := tr_of hw
  obtain ⟨h1, h2, _⟩ := gk_ck cx.2.1 hf0 gk
  exact ⟨h1, h2⟩
theorem JS.cat (h : JS Sf it dd S hs) (hd : dd + 1 ≤ 20) : JS Sf it (dd + 1) (sI S 87 0 (S.1 87 0 + 1)) hs := by
  have o : ∀ k, k ≠ 87 → (sI S 87 0 (S.1 87 0 + 1)).1 k = S.1 k := fun k hk => sI_ne hk
  obtain ⟨j1, j2, ⟨c, j3, j4⟩, j5, j6, j7, j8, j9, j10⟩ := h
  have e7 : (sI S 87 0 (S.1 87 0 + 1)).1 87 0 = nI (c + 1) := by rw [sI_v, j3, nI_1]
  have ea : arn (sI S 87 0 (S.1 87 0 + 1)) = arn S := by unfold arn; rw [o 84 (by omega)]
  have er : rn (sI S 87 0 (S.1 87 0 + 1)) = rn S := by unfold rn; rw [o 71 (by omega)]
  have ev : vn (sI S 87 0 (S.1 87 0 + 1)) = vn S := by unfold vn; rw [o 77 (by omega)]
  refine ⟨j1.w87, j2.fv fv_87 (by rw [o 77 (by omega)]), ⟨c + 1, e7, by omega⟩, hd, ?_, by omega, fun x hx => ?_, fun x hx => ?_, j10⟩
  · rw [ea, trc_ee (S := S) (n := arn S) (fun q _ => by rw [o 85 (by omega)]) _ (Nat.le_refl _)]
    exact j6
  · obtain ⟨⟨p1, p2, p3, p4, p5, p6, a, b, p7, p8, p9, p10, p11, p12⟩, h2, h3⟩ := j8 x hx
    have eb : b = c := nI_inj (by omega) (by omega) (p8.symm.trans j3)
    refine ⟨⟨by omega, fun k hk => by rw [o 73 (by omega)]; exact p2 k hk, by omega, fun q hq => ?_, fun c hc => ?_, by rw [o 76 (by omega)]; exact p6, a, c + 1, p7, e7, p9, by omega, p11, by omega⟩, by omega, by rw [o 85 (by omega)]; exact h3⟩
    · have := p4 q hq
      unfold isLv at this ⊢
      rw [o 85 (by omega), o 75 (by omega)]
      exact this
    · have := p5 c hc
      unfold isLv at this ⊢
      rw [o 75 (by omega)]
      exact this
  · obtain ⟨a1, a2⟩ := j9 x hx
    exact ⟨by omega, fun u hu => by rw [o 79 (by omega), o 80 (by omega)]; exact a2 u hu⟩
theorem tro_w (ha : arn S < 90) : (∀ k, k ≠ 84 → k ≠ 85 → (trO S).1 k = S.1 k) ∧ (∀ q, (trO S).1 85 q = if q = arn S then -1 else S.1 85 q) ∧ arn (trO S) = arn S + 1 ∧ (trO S).2 = S.2 := by
  have o84 : (trO S).1 84 0 = nI (arn S + 1) := by unfold trO; rw [sI_v]
  refine ⟨fun k k1 k2 => by unfold trO; rw [sI_ne k1, sI_ne k2], fun q => ?_, ?_, rfl⟩
  · unfold trO
    rw [sI_ne (by omega), rdI]
    by_cases c : q = arn S
    · rw [if_pos ⟨rfl, c⟩, if_pos c]
    · rw [if_neg (fun w => c w.2), if_neg c]
  · unfold arn at ha ⊢
    rw [o84]
    unfold arn
    rw [nc (by omega)]
theorem JS.tro (h : JS Sf it dd S hs) (hn : arn S < 40) (hd : dd + 1 ≤ 20) (h1 : FV S Sh) (h2 : vn Sh = vn S) (h3 : Sh.1 75 0 = S.1 75 0) (h4 : Sh.1 76 0 = S.1 76 0) (h5 : S.1 87 0 = nI c ∧ Sh.1 87 0 = nI (c + 1) ∧ c + 1 ≤ 20) (h6 : VwS Sf Sh) : JS Sf it (dd + 1) (trO S) ((hx, hy, Sh) :: hs) := by
  obtain ⟨o, o85, ea, o2⟩ := tro_w (S := S) (by omega)
  obtain ⟨j1, j2, ⟨c0, j3, j4⟩, j5, j6, j7, j8, j9, j10⟩ := h
  have er : rn (trO S) = rn S := by unfold rn; rw [o 71 (by omega) (by omega)]
  have ev : vn (trO S) = vn S := by unfold vn; rw [o 77 (by omega) (by omega)]
  have eaH : arn Sh = arn S := by unfold arn; rw [h1.2.2.1]
  have erH : rn Sh = rn S := by unfold rn; rw [h1.1]
  have lvO : ∀ x, isLv (trO S) x = isLv S x := fun x => by unfold isLv; rw [o 75 (by omega) (by omega)]
  have lvH : ∀ x, isLv Sh x = isLv S x := fun x => by unfold isLv; rw [h3]
  refine ⟨j1.tr hn, fun u hu => ?_, ⟨c0, by rw [o 87 (by omega) (by omega)]; exact j3, by omega⟩, hd, ?_, by show hs.length + 1 + 1 ≤ _; omega, fun x hx => ?_, fun x hx => ?_, fun x hx => ?_⟩
  · rw [o 80 (by omega) (by omega)]
    refine TyOf.mo (j2 u (by omega)) (fun c hc => ?_)
    rcases hc with w | ⟨c12, k, k1, k2⟩
    · exact Or.inl w
    · exact Or.inr ⟨c12, k, by omega, by rw [o 73 (by omega) (by omega)]; exact k2⟩
  · rw [ea, trc, o85, if_pos rfl, if_pos rfl, trc_ee (S := S) (n := arn S) (fun q hq => by rw [o85, if_neg (by omega)]) _ (Nat.le_refl _), ← j6]
    rfl
  · rcases List.mem_cons.mp hx with rfl | hx
    · refine ⟨⟨by show rn Sh ≤ _; omega, fun k hk => ?_, by show arn Sh ≤ _; omega, fun q hq => ?_, fun c hc => by rw [lvO]; exact lvH _, by rw [o 76 (by omega) (by omega)]; exact h4, c + 1, c, h5.2.1, by rw [o 87 (by omega) (by omega)]; exact h5.1, by omega, by omega, by have := h5.2.2; omega, by have := h5.2.2; omega⟩, by show arn Sh < _; omega, by show (trO S).1 85 (arn Sh) = -1; rw [eaH, o85, if_pos rfl]⟩
      · have hk : k < rn Sh := hk
        rw [o 73 (by omega) (by omega)]
        exact h1.2.1 k (by omega)
      · have hq : q < arn Sh := hq
        rw [o85, if_neg (by omega), lvO]
        exact ⟨h1.2.2.2.1 q (by omega), by show isLv Sh _ = 0 ↔ _; rw [lvH]⟩
    · obtain ⟨⟨p1, p2, p3, p4, p5, p6, p7⟩, h2, h3⟩ := j8 x hx
      refine ⟨⟨by omega, fun k hk => by rw [o 73 (by omega) (by omega)]; exact p2 k hk, by omega, fun q hq => ?_, fun c hc => by rw [lvO]; exact p5 c hc, by rw [o 76 (by omega) (by omega)]; exact p6, by rw [o 87 (by omega) (by omega)]; exact p7⟩, by omega, by rw [o85, if_neg (by omega)]; exact h3⟩
      rw [o85, if_neg (by omega), lvO]
      exact p4 q hq
  · rcases List.mem_cons.mp hx with rfl | hx
    · refine ⟨by show vn Sh ≤ _; omega, fun u hu => ?_⟩
      have hu : u < vn Sh := hu
      obtain ⟨c1, c2, c3⟩ := h1.2.2.2.2.2.1 u (by omega)
      rw [o 79 (by omega) (by omega), o 80 (by omega) (by omega), o2]
      exact ⟨c1, c2, c3⟩
    · obtain ⟨a1, a2⟩ := j9 x hx
      refine ⟨by omega, fun u hu => ?_⟩
      rw [o 79 (by omega) (by omega), o 80 (by omega) (by omega), o2]
      exact a2 u hu
  · rcases List.mem_cons.mp hx with rfl | hx
    · exact h6
    · exact j10 x hx
theorem gd_28 (cx : CxP M0 T0 Sf) (hf0 : Sf.1 7 0 = 0) (ihA : GdQ M0 T0 Sf X it n1 ta) (ihB : GdQ M0 T0 Sf X it n1 tb) (hw : Ws X (tD 28 i e ta tb) 0 a b v g v' g') (hg : SG X (tD 28 i e ta tb) dd 0) (gk : Gk X it Sf (tD 28 i e ta tb) ys no j S) (hR : CdS X it M0 (tD 28 i e ta tb) ys no S n n') (hT : KdS X it (eN Sf it) Sf T0 (tD 28 i e ta tb) ys no S m m') (pl : PlH T0 Sf it n1 dd v S hs n' m') (kv : KvP X (tD 28 i e ta tb) hs) (cont : (stS X it (tD 28 i e ta tb) ys no j S).1 83 0 = 1 → Gdk M0 T0 Sf n1 it k n' m' (stS X it (tD 28 i e ta tb) ys no j S) [] hs) : Gdk M0 T0 Sf n1 it k n m S [] hs := by
  obtain ⟨hC, hF, hC', hF', h7', h0, _, _⟩ := gk_ck cx.2.1 hf0 gk
  rw [Gk_n] at gk
  obtain ⟨⟨m9, a9, b9, v9, g9, v9', g9', n9, N9, hw9, hb9, hN9, hn9, hS⟩, _, _, gk⟩ := gk
  unfold GkN at gk
  rw [if_neg (by decide), if_neg (by decide), if_neg (by decide), if_neg (by decide), if_neg (by decide), if_neg (by decide), if_neg (by decide), if_neg (by decide), if_pos (by decide)] at gk
  obtain ⟨ga, gb⟩ := gk
  have n41 : n9 ≤ 41 := by
    have : bL m9 ≤ 41 := by unfold bL; split <;> omega
    omega
  have a40 := tr_room hw9 hN9 hn9 (hS.ar (by omega))
  rw [Ws_n] at hw
  unfold WsN at hw
  rw [if_neg (by omega), if_neg (by omega), if_neg (by omega), if_neg (by decide), if_neg (by decide), if_neg (by decide), if_neg (by decide), if_neg (by decide), if_neg (by decide), if_neg (by decide), if_neg (by decide), if_neg (by decide), if_pos rfl] at hw
  obtain ⟨_, c, v1, g1, hwa, hwb⟩ := hw
  obtain ⟨sa, sb⟩ : SG X ta (dd + 1) 2 ∧ SG X tb (dd + 1) 2 := hg
  have d20 : dd + 1 ≤ 20 := by
    obtain ⟨i2, e2, ta2, tb2, rfl⟩ := tr_of hwa
    obtain ⟨_, _, _, z⟩ : 31 = 31 ∧ SG X ta2 (dd + 1) 1 ∧ 1 ≤ dd + 1 ∧ dd + 1 ≤ 20 := sa
    exact z
  obtain ⟨l0, r1, q, q1, q2, r2, r3, r4, ca, cb⟩ : n < n' ∧ rwC4 M0 n = (0, nI (xP X i), 0, 0) ∧ ∃ q, n + 2 ≤ q ∧ q + 2 ≤ n' ∧ rwC4 M0 (n + 1) = (34, nI (q + 2), (trM X (stS X it ta) ta S).1 87 0, 0) ∧ rwC4 M0 q = (35, 0, 0, 0) ∧ rwC4 M0 (q + 1) = (27, nI n', 0, 0) ∧ CdS X it M0 ta 0 0 (trO S) (n + 2) q ∧ CdS X it M0 tb 0 0 (trM X (stS X it ta) ta S) (q + 2) n' := hR
  obtain ⟨l1, t1, r, s1, s2, t2, t3, t4, t5, ka, kb⟩ : m < m' ∧ cw3 T0 m = (1, nI (xP X i), 0) ∧ ∃ q, m + 2 ≤ q ∧ q + 3 ≤ m' ∧ cw3 T0 (m + 1) = (54, nI (q + 2), 0) ∧ cw3 T0 q = (55, 0, 0) ∧ cw3 T0 (q + 1) = (50, nI m', 0) ∧ cw3 T0 (q + 2) = (4, 60 + S.1 87 0, 1) ∧ KdS X it (eN Sf it) Sf T0 ta 0 0 (trO S) (m + 2) q ∧ KdS X it (eN Sf it) Sf T0 tb 0 0 (trM X (stS X it ta) ta S) (q + 3) m' := hT
  have pl0 := pl
  obtain ⟨js, sl, hdd, r83, hj, ln, lm, ps⟩ := pl
  have iv := pl0.iv hC hF cx.2.1
  have h84 : S.1 84 0 = nI (arn S) := by rw [hS.ar (by omega)]; exact hS.2.2.2.2.2.2.1
  obtain ⟨o, o85, ea, o2⟩ := tro_w (S := S) (by omega)
  obtain ⟨fa, va⟩ := fr_all (it := it) (en := eN Sf it) hf0 ta 0 0 0 _ ga (js.1.tr a40)
  have va := va (blk_of hwa)
  have fr3 : FR S (sI (stS X it ta 0 0 0 (trO S)) 84 0 ((stS X it ta 0 0 0 (trO S)).1 84 0 - 1)) := FR.tri a40 h84 fa
  have fr4 : FR S (rsS (sI (stS X it ta 0 0 0 (trO S)) 84 0 ((stS X it ta 0 0 0 (trO S)).1 84 0 - 1)) (S.1 81 0) (if S.1 83 0 = 0 then S.1 82 0 else S.1 82 0 &&& (gvA X ta S 0 ^^^ (-1))) (S.1 75 0) (S.1 83 0)) := rs_fr fr3
  have eSH : (trM X (stS X it ta) ta S) = sI (rsS (sI (stS X it ta 0 0 0 (trO S)) 84 0 ((stS X it ta 0 0 0 (trO S)).1 84 0 - 1)) (S.1 81 0) (if S.1 83 0 = 0 then S.1 82 0 else S.1 82 0 &&& (gvA X ta S 0 ^^^ (-1))) (S.1 75 0) (S.1 83 0)) 87 0 ((rsS (sI (stS X it ta 0 0 0 (trO S)) 84 0 ((stS X it ta 0 0 0 (trO S)).1 84 0 - 1)) (S.1 81 0) (if S.1 83 0 = 0 then S.1 82 0 else S.1 82 0 &&& (gvA X ta S 0 ^^^ (-1))) (S.1 75 0) (S.1 83 0)).1 87 0 + 1) := rfl
  obtain ⟨_, _, ⟨c0, j3, j4⟩, _⟩ := id js
  have rs := rs_8 (S := (sI (stS X it ta 0 0 0 (trO S)) 84 0 ((stS X it ta 0 0 0 (trO S)).1 84 0 - 1))) (a1 := S.1 81 0) (a2 := (if S.1 83 0 = 0 then S.1 82 0 else S.1 82 0 &&& (gvA X ta S 0 ^^^ (-1)))) (a3 := S.1 75 0) (a4 := S.1 83 0)
  have h87 : (trM X (stS X it ta) ta S).1 87 0 = nI (c0 + 1) := by rw [eSH, sI_v, fr4.2.2.1, j3, nI_1]
  have oH : ∀ k, k ≠ 87 → (trM X (stS X it ta) ta S).1 k = (rsS (sI (stS X it ta 0 0 0 (trO S)) 84 0 ((stS X it ta 0 0 0 (trO S)).1 84 0 - 1)) (S.1 81 0) (if S.1 83 0 = 0 then S.1 82 0 else S.1 82 0 &&& (gvA X ta S 0 ^^^ (-1))) (S.1 75 0) (S.1 83 0)).1 k := fun k hk => by rw [eSH, sI_ne hk]
  have v3 : (sI (stS X it ta 0 0 0 (trO S)) 84 0 ((stS X it ta 0 0 0 (trO S)).1 84 0 - 1)).1 77 0 = S.1 77 0 := by rw [sI_ne (by omega), va, o 77 (by omega) (by omega)]
  have v4 : (rsS (sI (stS X it ta 0 0 0 (trO S)) 84 0 ((stS X it ta 0 0 0 (trO S)).1 84 0 - 1)) (S.1 81 0) (if S.1 83 0 = 0 then S.1 82 0 else S.1 82 0 &&& (gvA X ta S 0 ^^^ (-1))) (S.1 75 0) (S.1 83 0)).1 77 0 = S.1 77 0 := by rw [rs.2.2.2.2.1, v3]
  have fvH : FV S (trM X (stS X it ta) ta S) := fr4.1.on fv_87
  have vH7 : (trM X (stS X it ta) ta S).1 77 0 = S.1 77 0 := by rw [oH 77 (by omega), v4]
  have vH : vn (trM X (stS X it ta) ta S) = vn S := by unfold vn; rw [vH7]
  have jH : JS Sf it (dd + 1) (trM X (stS X it ta) ta S) hs := (js.fr fr4 v4).cat d20
  have slH := sl.fn fvH.fn vH7
  obtain ⟨ckH, fwH⟩ := ck0_of cx hf0 hwb gb
  have vwH : VwS Sf (trM X (stS X it ta) ta S) := vw_of jH.2.1 slH ckH fwH cx.2.1
  have ivH := jH.iv2 vwH
  have H75 : (trM X (stS X it ta) ta S).1 75 0 = S.1 75 0 := by rw [oH 75 (by omega), rs.2.2.1]
  have H76 : (trM X (stS X it ta) ta S).1 76 0 = S.1 76 0 := by rw [oH 76 (by omega), fr4.2.1]
  have H83 : (trM X (stS X it ta) ta S).1 83 0 = 1 := by rw [oH 83 (by omega), rs.2.2.2.1]; exact r83
  have H81 : (trM X (stS X it ta) ta S).1 81 0 = S.1 81 0 := by rw [oH 81 (by omega), rs.1]
  have H82 : (trM X (stS X it ta) ta S).1 82 0 = S.1 82 0 &&& (gvA X ta S 0 ^^^ (-1)) := by rw [oH 82 (by omega), rs.2.1, if_neg (by rw [r83]; decide)]
  have vw0 : VwS Sf S := iv.1
  have jO := js.tro (hx := q + 2) (hy := r + 2) a40 d20 fvH vH H75 H76 ⟨j3, h87, by omega⟩ vwH
  have vwO : VwS Sf (trO S) := vw0.ex (fun k hk => o k (by omega) (by omega))
  have ivO := jO.iv2 vwO
  have fnO : FN S (trO S) := FN.eq (by rw [o 77 (by omega) (by omega)]) (o 79 (by omega) (by omega)) (by rw [o2])
  have slO := sl.fn fnO (by rw [o 77 (by omega) (by omega)])
  obtain ⟨s1', k1'⟩ := kn_all (en := eN Sf it) hf0 ta 2 _ _ _ _ _ _ 0 0 0 _ hwa ga (js.1.tr a40) slO
  have j2 := jO.fr fa va
  have sl2 := slO.fn fa.1.fn va
  obtain ⟨c2, f2⟩ := ckf_of cx hf0 hwa ga
  have vw2 : VwS Sf (stS X it ta 0 0 0 (trO S)) := vw_of j2.2.1 sl2 c2 f2 cx.2.1
  have iv2 := j2.iv2 vw2
  have p3 : ∀ k, k ≠ 84 → (sI (stS X it ta 0 0 0 (trO S)) 84 0 ((stS X it ta 0 0 0 (trO S)).1 84 0 - 1)).1 k = (stS X it ta 0 0 0 (trO S)).1 k := fun k hk => sI_ne hk
  have vw3 : VwS Sf (sI (stS X it ta 0 0 0 (trO S)) 84 0 ((stS X it ta 0 0 0 (trO S)).1 84 0 - 1)) := vw2.ex (fun k hk => p3 k (by omega))
  have iv3 := (js.fr fr3 v3).iv2 vw3
  have ar3 : arn (sI (stS X it ta 0 0 0 (trO S)) 84 0 ((stS X it ta 0 0 0 (trO S)).1 84 0 - 1)) = arn S := by unfold arn; rw [fr3.1.2.2.1]
  have ar2 : arn (stS X it ta 0 0 0 (trO S)) = arn S + 1 := by rw [← ea]; unfold arn; rw [fa.1.2.2.1]
  have trd : TrdS Sf (stS X it ta 0 0 0 (trO S)) (sI (stS X it ta 0 0 0 (trO S)) 84 0 ((stS X it ta 0 0 0 (trO S)).1 84 0 - 1)) := by
    refine ⟨⟨by unfold rn; rw [p3 71 (by omega)]; exact Nat.le_refl _, fun k _ => by rw [p3 73 (by omega)], by omega, fun q _ => ⟨by rw [p3 85 (by omega)], by unfold isLv; rw [p3 75 (by omega)]⟩, fun c _ => by unfold isLv; rw [p3 75 (by omega)], by rw [p3 76 (by omega)]⟩, by omega, by rw [ar3, fa.1.2.2.2.1 _ (by omega), o85, if_pos rfl], ⟨c0, c0, by rw [fr3.2.2.1]; exact j3, by rw [← p3 87 (by omega), fr3.2.2.1]; exact j3, Nat.le_refl _, by omega⟩, vw_eq (by rw [p3 77 (by omega)]) (p3 79 (by omega)) (p3 80 (by omega)) (by rw [p3 81 (by omega)]) (by rw [p3 82 (by omega)])⟩
  have pfH : PfR (trM X (stS X it ta) ta S) S := by
    have e1 : rn (trM X (stS X it ta) ta S) = rn S := by unfold rn; rw [fvH.1]
    have e2 : arn (trM X (stS X it ta) ta S) = arn S := by unfold arn; rw [fvH.2.2.1]
    exact ⟨by omega, fun k hk => fvH.2.1 k (by omega), by omega, fun q hq => ⟨fvH.2.2.2.1 q (by omega), by unfold isLv; rw [H75]⟩, fun c _ => by unfold isLv; rw [H75], H76⟩
  have arH : arn (trM X (stS X it ta) ta S) = arn S := by unfold arn; rw [fvH.2.2.1]
  have trs : TrsS Sf S (trO S) (trM X (stS X it ta) ta S) := by
    refine ⟨by unfold rn; rw [o 71 (by omega) (by omega)], fun k _ => by rw [o 73 (by omega) (by omega)], ea, by rw [o85, if_pos rfl], fun q hq => by rw [o85, if_neg (by omega)], by rw [o 75 (by omega) (by omega)], by rw [o 76 (by omega) (by omega)], by rw [o 87 (by omega) (by omega)], vw_eq (by rw [o 77 (by omega) (by omega)]) (o 79 (by omega) (by omega)) (o 80 (by omega) (by omega)) (by rw [o 81 (by omega) (by omega)]) (by rw [o 82 (by omega) (by omega)]), ?_, vw_fv fvH (by omega) H81 (fun s hs w => ?_)⟩
    · rw [lvc_pf pfH _ (Nat.le_refl _), arH]
    · rw [H82, fi_an] at w
      exact (Bool.and_eq_true_iff.mp w).1
  have hds : HdS T0 Sf n1 it (q + 2, r + 2, (trM X (stS X it ta) ta S)) hs := ⟨ivH, c0 + 1, h87, by omega, by omega, by rw [t5, j3]; show (4, (60 : Int32) + nI c0, (1 : Int32)) = _; rw [show 60 + (c0 + 1) - 1 = 60 + c0 by omega, show nI (60 + c0) = 60 + nI c0 from Int32.ofNat_add _ _], by show r + 2 < n1; omega⟩
  -- the states behind
  have t7 := t7_of cx hf0 hwa ga
  have b7 := t7_of cx hf0 hwb gb
  have rB := rc_of cx hf0 hwb gb
  have rA := rc_of cx hf0 hwa ga
  obtain ⟨fb, vb⟩ := fr_all (it := it) (en := eN Sf it) hf0 tb 0 0 0 _ gb jH.1
  have vb := vb (blk_of hwb)
  have p7 : ∀ k, k ≠ 87 → (sI (stS X it tb 0 0 0 (trM X (stS X it ta) ta S)) 87 0 ((stS X it tb 0 0 0 (trM X (stS X it ta) ta S)).1 87 0 - 1)).1 k = (stS X it tb 0 0 0 (trM X (stS X it ta) ta S)).1 k := fun k hk => sI_ne hk
  have fr7 : FR S (sI (stS X it tb 0 0 0 (trM X (stS X it ta) ta S)) 87 0 ((stS X it tb 0 0 0 (trM X (stS X it ta) ta S)).1 87 0 - 1)) := FR.ct fr4 fb
  have v7 : (sI (stS X it tb 0 0 0 (trM X (stS X it ta) ta S)) 87 0 ((stS X it tb 0 0 0 (trM X (stS X it ta) ta S)).1 87 0 - 1)).1 77 0 = S.1 77 0 := by rw [p7 77 (by omega), vb, vH7]
  have z3 : (sI (stS X it ta 0 0 0 (trO S)) 84 0 ((stS X it ta 0 0 0 (trO S)).1 84 0 - 1)).1 7 0 = 0 := by rw [p3 7 (by omega)]; exact t7
  have z7 : (sI (stS X it tb 0 0 0 (trM X (stS X it ta) ta S)) 87 0 ((stS X it tb 0 0 0 (trM X (stS X it ta) ta S)).1 87 0 - 1)).1 7 0 = 0 := by rw [p7 7 (by omega)]; exact b7
  have r7 : (sI (stS X it tb 0 0 0 (trM X (stS X it ta) ta S)) 87 0 ((stS X it tb 0 0 0 (trM X (stS X it ta) ta S)).1 87 0 - 1)).1 83 0 = 0 ∨ (sI (stS X it tb 0 0 0 (trM X (stS X it ta) ta S)) 87 0 ((stS X it tb 0 0 0 (trM X (stS X it ta) ta S)).1 87 0 - 1)).1 83 0 = 1 := by rw [p7 83 (by omega)]; exact rB
  have rT3 : (sI (stS X it ta 0 0 0 (trO S)) 84 0 ((stS X it ta 0 0 0 (trO S)).1 84 0 - 1)).1 83 0 = 0 ∨ (sI (stS X it ta 0 0 0 (trO S)) 84 0 ((stS X it ta 0 0 0 (trO S)).1 84 0 - 1)).1 83 0 = 1 := by rw [p3 83 (by omega)]; exact rA
  have e4 : stS X it (tD 28 i e ta tb) ys no j S = (mtS (sI (stS X it tb 0 0 0 (trM X (stS X it ta) ta S)) 87 0 ((stS X it tb 0 0 0 (trM X (stS X it ta) ta S)).1 87 0 - 1)) ((sI (stS X it ta 0 0 0 (trO S)) 84 0 ((stS X it ta 0 0 0 (trO S)).1 84 0 - 1)).1 81 0) ((sI (stS X it ta 0 0 0 (trO S)) 84 0 ((stS X it ta 0 0 0 (trO S)).1 84 0 - 1)).1 82 0) ((sI (stS X it ta 0 0 0 (trO S)) 84 0 ((stS X it ta 0 0 0 (trO S)).1 84 0 - 1)).1 75 0) ((sI (stS X it ta 0 0 0 (trO S)) 84 0 ((stS X it ta 0 0 0 (trO S)).1 84 0 - 1)).1 83 0) (nI (xP X i))) := by
    have e0 : stS X it (tD 28 i e ta tb) ys no j S = if (sI (stS X it ta 0 0 0 (trO S)) 84 0 ((stS X it ta 0 0 0 (trO S)).1 84 0 - 1)).1 7 0 = 0 then (if (sI (stS X it tb 0 0 0 (trM X (stS X it ta) ta S)) 87 0 ((stS X it tb 0 0 0 (trM X (stS X it ta) ta S)).1 87 0 - 1)).1 7 0 = 0 then (mtS (sI (stS X it tb 0 0 0 (trM X (stS X it ta) ta S)) 87 0 ((stS X it tb 0 0 0 (trM X (stS X it ta) ta S)).1 87 0 - 1)) ((sI (stS X it ta 0 0 0 (trO S)) 84 0 ((stS X it ta 0 0 0 (trO S)).1 84 0 - 1)).1 81 0) ((sI (stS X it ta 0 0 0 (trO S)) 84 0 ((stS X it ta 0 0 0 (trO S)).1 84 0 - 1)).1 82 0) ((sI (stS X it ta 0 0 0 (trO S)) 84 0 ((stS X it ta 0 0 0 (trO S)).1 84 0 - 1)).1 75 0) ((sI (stS X it ta 0 0 0 (trO S)) 84 0 ((stS X it ta 0 0 0 (trO S)).1 84 0 - 1)).1 83 0) (nI (xP X i))) else (sI (stS X it tb 0 0 0 (trM X (stS X it ta) ta S)) 87 0 ((stS X it tb 0 0 0 (trM X (stS X it ta) ta S)).1 87 0 - 1))) else (sI (stS X it ta 0 0 0 (trO S)) 84 0 ((stS X it ta 0 0 0 (trO S)).1 84 0 - 1)) := rfl
    rw [e0, if_pos z3, if_pos z7]
  have fm : FR S (mtS (sI (stS X it tb 0 0 0 (trM X (stS X it ta) ta S)) 87 0 ((stS X it tb 0 0 0 (trM X (stS X it ta) ta S)).1 87 0 - 1)) ((sI (stS X it ta 0 0 0 (trO S)) 84 0 ((stS X it ta 0 0 0 (trO S)).1 84 0 - 1)).1 81 0) ((sI (stS X it ta 0 0 0 (trO S)) 84 0 ((stS X it ta 0 0 0 (trO S)).1 84 0 - 1)).1 82 0) ((sI (stS X it ta 0 0 0 (trO S)) 84 0 ((stS X it ta 0 0 0 (trO S)).1 84 0 - 1)).1 75 0) ((sI (stS X it ta 0 0 0 (trO S)) 84 0 ((stS X it ta 0 0 0 (trO S)).1 84 0 - 1)).1 83 0) (nI (xP X i))) := fr7.mt fr3 rfl
  have m77 : (mtS (sI (stS X it tb 0 0 0 (trM X (stS X it ta) ta S)) 87 0 ((stS X it tb 0 0 0 (trM X (stS X it ta) ta S)).1 87 0 - 1)) ((sI (stS X it ta 0 0 0 (trO S)) 84 0 ((stS X it ta 0 0 0 (trO S)).1 84 0 - 1)).1 81 0) ((sI (stS X it ta 0 0 0 (trO S)) 84 0 ((stS X it ta 0 0 0 (trO S)).1 84 0 - 1)).1 82 0) ((sI (stS X it ta 0 0 0 (trO S)) 84 0 ((stS X it ta 0 0 0 (trO S)).1 84 0 - 1)).1 75 0) ((sI (stS X it ta 0 0 0 (trO S)) 84 0 ((stS X it ta 0 0 0 (trO S)).1 84 0 - 1)).1 83 0) (nI (xP X i))).1 77 0 = S.1 77 0 := by rw [(FO.mt).1 77 (by unfold fO; omega), v7]
  rw [e4] at h7' cont
  obtain ⟨m1, m2, m3⟩ := mt_v h7' z7 r7 rT3
  have f1 : (sI (stS X it ta 0 0 0 (trO S)) 84 0 ((stS X it ta 0 0 0 (trO S)).1 84 0 - 1)).1 83 0 = 1 → Gdk M0 T0 Sf n1 it k n' m' (sI (stS X it ta 0 0 0 (trO S)) 84 0 ((stS X it ta 0 0 0 (trO S)).1 84 0 - 1)) [] hs := fun h2 => by
    rcases r7 with r7 | r7
    · have e := m3 r7
      have rs := rs_8 (S := (sI (stS X it tb 0 0 0 (trM X (stS X it ta) ta S)) 87 0 ((stS X it tb 0 0 0 (trM X (stS X it ta) ta S)).1 87 0 - 1))) (a1 := (sI (stS X it ta 0 0 0 (trO S)) 84 0 ((stS X it ta 0 0 0 (trO S)).1 84 0 - 1)).1 81 0) (a2 := (sI (stS X it ta 0 0 0 (trO S)) 84 0 ((stS X it ta 0 0 0 (trO S)).1 84 0 - 1)).1 82 0) (a3 := (sI (stS X it ta 0 0 0 (trO S)) 84 0 ((stS X it ta 0 0 0 (trO S)).1 84 0 - 1)).1 75 0) (a4 := (sI (stS X it ta 0 0 0 (trO S)) 84 0 ((stS X it ta 0 0 0 (trO S)).1 84 0 - 1)).1 83 0)
      rw [e] at cont fm m77
      exact (cont (by rw [rs.2.2.2.1]; exact h2)).wk (wk_fr fr3 fm v3 m77 rs.2.2.1 (fun u s _ _ _ w => by rw [rs.1] at w; exact w) (fun u s _ _ _ w => by rw [rs.2.1] at w; exact w))
    · obtain ⟨x1, x2, x3, x4, x5⟩ := m1 r7 h2
      refine (cont x3).wk (wk_fr fr3 fm v3 m77 x2 (fun u s _ _ _ w => ?_) (fun u s _ _ _ w => ?_))
      · rw [x4, fi_an] at w
        exact (Bool.and_eq_true_iff.mp w).2
      · rw [x5, fi_an] at w
        exact (Bool.and_eq_true_iff.mp w).2
  have f2' : (sI (stS X it tb 0 0 0 (trM X (stS X it ta) ta S)) 87 0 ((stS X it tb 0 0 0 (trM X (stS X it ta) ta S)).1 87 0 - 1)).1 83 0 = 1 → Gdk M0 T0 Sf n1 it k n' m' (sI (stS X it tb 0 0 0 (trM X (stS X it ta) ta S)) 87 0 ((stS X it tb 0 0 0 (trM X (stS X it ta) ta S)).1 87 0 - 1)) [] hs := fun h4 => by
    rcases rT3 with r2 | r2
    · have e := m2 h4 r2
      rw [e] at cont
      exact cont h4
    · obtain ⟨x1, x2, x3, x4, x5⟩ := m1 h4 r2
      refine (cont x3).wk (wk_fr fr7 fm v7 m77 (by rw [x2, x1]) (fun u s _ _ _ w => ?_) (fun u s _ _ _ w => ?_))
      · rw [x4, fi_an] at w
        exact (Bool.and_eq_true_iff.mp w).1
      · rw [x5, fi_an] at w
        exact (Bool.and_eq_true_iff.mp w).1
  have s87 : (stS X it tb 0 0 0 (trM X (stS X it ta) ta S)).1 87 0 = nI (c0 + 1) := by rw [fb.2.2.1, h87]
  have slB : SlB (trM X (stS X it ta) ta S) v1 := slH.fv FV.rf rfl (Ws_mo _ _ _ _ _ _ _ _ hwa).2.1 s1'.1
  have fS := st_fs (X := X) (it := it) ta 0 0 0 (trO S)
  have hjH : Sf.2 16 = (trM X (stS X it ta) ta S).2 16 ∧ Sf.2 32 = (trM X (stS X it ta) ta S).2 32 := by
    have eP : (trM X (stS X it ta) ta S).2 = (stS X it ta 0 0 0 (trO S)).2 := by rw [eSH]; exact rs.2.2.2.2.2.2
    rw [eP, fS.2.1 16 (by omega), fS.2.1 32 (by omega), o2]
    exact hj
  have gc : Gdk M0 T0 Sf n1 it k (q + 2) (r + 3) (trM X (stS X it ta) ta S) [] hs := (ihB 2 _ _ v1 g1 v' g' (dd + 1) 0 0 0 (trM X (stS X it ta) ta S) (q + 2) n' (r + 3) m' k hs hwb sb gb cb kb ⟨jH, slB, by omega, H83, hjH, ln, lm, ps⟩ (kv.sub (fun S u h => as_b (by omega) h)) (fun h83 => (f2' (by rw [p7 83 (by omega)]; exact h83)).wt (wt_87 s87 (by omega)))).1 (by omega)
  have psN : PsH q r ((q + 2, r + 2, (trM X (stS X it ta) ta S)) :: hs) := fun x hx => by
    rcases List.mem_cons.mp hx with rfl | hx
    · exact ⟨by show q < q + 2; omega, by show r < r + 2; omega⟩
    · have := ps x hx
      exact ⟨by omega, by omega⟩
  have kvN : KvP X ta ((q + 2, r + 2, (trM X (stS X it ta) ta S)) :: hs) := fun x hx u s hu ha h79 => by
    rcases List.mem_cons.mp hx with rfl | hx
    · have hu : u < vn (trM X (stS X it ta) ta S) := hu
      have ha : AsR X ta (trM X (stS X it ta) ta S) u := ha
      have h79 : (trM X (stS X it ta) ta S).1 79 u = nI s := h79
      show fi ((trM X (stS X it ta) ta S).1 82 0) s = false
      have h20 := sl.2.1
      have ha := ha.fv fvH.fn (by omega) (by omega)
      rw [(fvH.2.2.2.2.2.1 u (by omega)).1] at h79
      obtain ⟨s', e1, e2⟩ := sl.2.2.1 u (by omega)
      have l20 := sl.1
      rcases Nat.lt_or_ge s 32 with s32 | s32
      · have es : s = s' := nI_inj (by omega) (by omega) (h79.symm.trans e1)
        have : fi (gvA X ta S 0) s = true := (gv_iff (by omega) (fun u hu => by obtain ⟨s, s1, s2⟩ := sl.2.2.1 u hu; exact ⟨s, s1, by omega⟩) h20 ta 0).mpr (Or.inr ⟨u, by omega, ha, h79⟩)
        rw [H82, fi_an, fi_xr, fi_m1 (by omega), this]
        exact Bool.and_false _
      · unfold fi
        exact BitVec.getLsbD_of_ge _ _ (by omega)
    · exact kv x hx u s hu (as_a (by omega) ha) h79
  have gbd : Gdk M0 T0 Sf n1 it k (n + 2) (m + 2) (trO S) [] ((q + 2, r + 2, (trM X (stS X it ta) ta S)) :: hs) := by
    refine (ihA 2 _ _ v g v1 g1 (dd + 1) 0 0 0 (trO S) (n + 2) q (m + 2) r k ((q + 2, r + 2, (trM X (stS X it ta) ta S)) :: hs) hwa sa ga ca ka ⟨jO, slO, by omega, by rw [o 83 (by omega) (by omega)]; exact r83, by rw [o2]; exact hj, by omega, by omega, psN⟩ kvN (fun h83 => ?_)).1 (by omega)
    refine gd_ru iv2 (by omega) (by omega) psN (fun k' hk' => Or.inr (Or.inr (Or.inr (Or.inr (Or.inr (Or.inr (Or.inr (Or.inr (Or.inr (Or.inr (Or.inr (Or.inr (Or.inr (Or.inr (Or.inr (Or.inr (Or.inr (Or.inr (Or.inr (Or.inr (Or.inl ⟨0, 0, 0, 0, 0, (q + 2, r + 2, (trM X (stS X it ta) ta S)), hs, (sI (stS X it ta 0 0 0 (trO S)) 84 0 ((stS X it ta 0 0 0 (trO S)).1 84 0 - 1)), r3, t3, rfl, trd, iv3, ?_⟩)))))))))))))))))))))
    refine gd_ru iv3 (by omega) (by omega) (ps.le (by omega) (by omega)) (fun j hj => Or.inr (Or.inr (Or.inr (Or.inr (Or.inl ⟨n', m', 0, 0, 0, r4, t4, Or.inl ⟨by omega, by omega⟩, ln, lm, (f1 (by rw [p3 83 (by omega)]; exact h83)).le (by omega)⟩)))))
  refine gd_stp iv (by omega) (by omega) (ps.le (by omega) (by omega)) r1 t1 ?_
  exact gd_ru iv (by omega) (by omega) (ps.le (by omega) (by omega)) (fun j hj => Or.inr (Or.inr (Or.inr (Or.inr (Or.inr (Or.inr (Or.inr (Or.inr (Or.inr (Or.inr (Or.inr (Or.inr (Or.inr (Or.inr (Or.inr (Or.inr (Or.inr (Or.inr (Or.inr (Or.inl ⟨q + 2, r + 2, 0, 0, trO S, (trM X (stS X it ta) ta S), r2, t2, rfl, trs, ivO, hds, by omega, by omega, gc.le (by omega), gbd.le (by omega)⟩))))))))))))))))))))
end SUU
