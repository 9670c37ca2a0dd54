/-! places of the code: if, while */
-/
section SUS
variable {M0 T0 S S' S1 S2 S3 Sf : gSt} {X : Lx} {it e v g n n' n2 m m' m2 k i q c en j a b v' g' dd dd' u s n1 B L p nx mx : Nat} {t ta tb : Tr} {x y r w ys no b0 t1 pl' z0 : Int32} {nm : Int64} {st st' s0 : List Int32} {hs : List HD} {jj : T5} {ks js : List T5}
theorem gd_21 (cx : CxP M0 T0 Sf) (hf0 : Sf.1 7 0 = 0) (ihB : GdQ M0 T0 Sf X it n1 tb) (hw : Ws X (tD 21 i e ta tb) 0 a b v g v' g') (hg : SG X (tD 21 i e ta tb) dd 0) (gk : Gk X it Sf (tD 21 i e ta tb) ys no j S) (hR : CdS X it M0 (tD 21 i e ta tb) ys no S n n') (hT : KdS X it (eN Sf it) Sf T0 (tD 21 i e ta tb) ys no S m m') (pl : PlH T0 Sf it n1 dd v S hs n' m') (kv : KvP X (tD 21 i e ta tb) hs) (cont : (stS X it (tD 21 i e ta tb) ys no j S).1 83 0 = 1 → Gdk M0 T0 Sf n1 it k n' m' (stS X it (tD 21 i e ta tb) ys no j S) [] hs) : Gdk M0 T0 Sf n1 it k n m S [] hs := by
  obtain ⟨hC, hF, hC', hF', h7', h0, ⟨vv, gg, nn, hS⟩, _⟩ := gk_ck cx.2.1 hf0 gk
  rw [Gk_n] at gk
  obtain ⟨_, _, _, gk⟩ := gk
  unfold GkN at gk
  rw [if_neg (by decide), if_pos (by decide)] at gk
  obtain ⟨ge, gb⟩ := gk
  rw [Ws_n] at hw
  unfold WsN at hw
  rw [if_neg (by omega), if_neg (by omega), if_neg (by omega), if_neg (by decide), if_pos rfl] at hw
  obtain ⟨_, c, _, hwb⟩ := hw
  obtain ⟨hx, sb⟩ : (XG X ta (19 - dd) 1 ∧ dd ≤ 19) ∧ SG X tb (dd + 1) 3 := hg
  obtain ⟨l0, r1, n2, r2, r3, r4, r5, r6, cb⟩ : n < n' ∧ rwC4 M0 n = (0, nI (xP X i), 0, 0) ∧ ∃ n2, ExC M0 (chk X ta 0 0 S).2.2.1 (n + 1) n2 ∧ n2 < n' ∧ M0.1 96 n2 = 26 ∧ M0.1 98 n2 = qK (chk X ta 0 0 S).1 ∧ M0.1 99 n2 = 0 ∧ CdS X it M0 tb (akY X ta (cdC X ta S)) (akN X ta (cdC X ta S)) (cdC X ta S) n2 n' := hR
  obtain ⟨l1, t1, m2, t2, t3, t4, t5, kb⟩ : m < m' ∧ cw3 T0 m = (1, nI (xP X i), 0) ∧ ∃ m2, KxC (eN Sf it) Sf T0 S (chk X ta 0 0 S).2.2.1 (m + 1) m2 ∧ m2 < m' ∧ T0.1 48 m2 = 51 ∧ T0.1 50 m2 = 0 ∧ KdS X it (eN Sf it) Sf T0 tb (akY X ta (cdC X ta S)) (akN X ta (cdC X ta S)) (cdC X ta S) m2 m' := hT
  have e0 : stS X it (tD 21 i e ta tb) ys no j S = if (cdC X ta S).1 7 0 = 0 then stS X it tb (akY X ta (cdC X ta S)) (akN X ta (cdC X ta S)) i (cdC X ta S) else (cdC X ta S) := rfl
  have c7 : (cdC X ta S).1 7 0 = 0 := by
    refine Decidable.byContradiction fun w => ?_
    rw [e0, if_neg w] at h7'
    exact w h7'
  rw [e0, if_pos c7] at cont
  have pl0 := pl
  obtain ⟨js, sl, hdd, r83, hj, ln, lm, ps⟩ := pl
  have iv := pl0.iv hC hF cx.2.1
  have fc := FR.cnd (X := X) (ta := ta) hS
  obtain ⟨eC, _⟩ := cd_ok c7 ge.2.2.2.1
  have fe := chk_fe (X := X) ta 0 0 S
  have C83 : (cdC X ta S).1 83 0 = 1 := by rw [eC, (fe_8 fe).2.2.2.2.2]; exact r83
  have hjC : Sf.2 16 = (cdC X ta S).2 16 ∧ Sf.2 32 = (cdC X ta S).2 32 := by rw [eC, fe.2.1]; exact hj
  obtain ⟨nx, mx, q1, q2, q3, q4, q5, q6, q7, q8⟩ := (ihB 3 c b v g v' g' (dd + 1) (akY X ta (cdC X ta S)) (akN X ta (cdC X ta S)) i (cdC X ta S) n2 n' m2 m' k hs hwb sb gb cb kb ⟨(js.fr fc cd_77).deep (by omega) (by omega), sl.fn fc.1.fn cd_77, by omega, C83, hjC, ln, lm, ps⟩ (kv.sub (fun S u h => as_b (by omega) h)) cont).2 rfl
  have k1 : n + 1 ≤ n2 := by have := r2.1; omega
  have k2 : m + 1 ≤ m2 := by have := t2.1; omega
  refine gd_stp iv (by omega) (by omega) (ps.le (by omega) (by omega)) r1 t1 ?_
  exact gd_cd cx hj ge hx hdd js sl hC hF c7 r2 t2 (by unfold rwC4; rw [r4, q1, r5, r6]) (by unfold cw3; rw [t4, q2, t5]) q3 q4 q5 q6 (ps.le (by omega) (by omega)) q7 q8
theorem gd_22 (cx : CxP M0 T0 Sf) (hf0 : Sf.1 7 0 = 0) (ihB : GdQ M0 T0 Sf X it n1 tb) (hw : Ws X (tD 22 i e ta tb) 0 a b v g v' g') (hg : SG X (tD 22 i e ta tb) dd 0) (gk : Gk X it Sf (tD 22 i e ta tb) ys no j S) (hR : CdS X it M0 (tD 22 i e ta tb) ys no S n n') (hT : KdS X it (eN Sf it) Sf T0 (tD 22 i e ta tb) ys no S m m') (pl : PlH T0 Sf it n1 dd v S hs n' m') (kv : KvP X (tD 22 i e ta tb) hs) (cont : (stS X it (tD 22 i e ta tb) ys no j S).1 83 0 = 1 → Gdk M0 T0 Sf n1 it k n' m' (stS X it (tD 22 i e ta tb) ys no j S) [] hs) : Gdk M0 T0 Sf n1 it k n m S [] hs := by
  obtain ⟨hC, hF, hC', hF', h7', h0, ⟨vv, gg, nn, hS⟩, _⟩ := gk_ck cx.2.1 hf0 gk
  have gk0 := gk
  have hw0 := hw
  rw [Gk_n] at gk
  obtain ⟨_, _, _, gk⟩ := gk
  unfold GkN at gk
  rw [if_neg (by decide), if_neg (by decide), if_neg (by decide), if_pos (by decide)] at gk
  obtain ⟨ge, gb⟩ := gk
  rw [Ws_n] at hw
  unfold WsN at hw
  rw [if_neg (by omega), if_neg (by omega), if_neg (by omega), if_neg (by decide), if_neg (by decide), if_pos rfl] at hw
  obtain ⟨_, c, _, hwb⟩ := hw
  obtain ⟨hx, sb⟩ : (XG X ta (19 - dd) 1 ∧ dd ≤ 19) ∧ SG X tb (dd + 1) 2 := hg
  obtain ⟨l0, r1, n2, q, r2, r3, rfl, r4, r5, cb⟩ : n < n' ∧ rwC4 M0 n = (0, nI (xP X i), 0, 0) ∧ ∃ n2 q, ExC M0 (chk X ta 0 0 (whO X tb S)).2.2.1 (n + 1) n2 ∧ n2 < q ∧ n' = q + 1 ∧ rwC4 M0 n2 = (26, nI n', qK (chk X ta 0 0 (whO X tb S)).1, 0) ∧ rwC4 M0 q = (27, nI n, 0, 0) ∧ CdS X it M0 tb 0 0 (kwS (cdC X ta (whO X tb S)) (akY X ta (cdC X ta (whO X tb S)))) (n2 + 1) q := hR
  obtain ⟨l1, t1, m2, qm, t2, t3, rfl, t4, t5, kb⟩ : m < m' ∧ cw3 T0 m = (1, nI (xP X i), 0) ∧ ∃ m2 q, KxC (eN Sf it) Sf T0 (whO X tb S) (chk X ta 0 0 (whO X tb S)).2.2.1 (m + 1) m2 ∧ m2 < q ∧ m' = q + 1 ∧ cw3 T0 m2 = (51, nI m', 0) ∧ cw3 T0 q = (50, nI m, 0) ∧ KdS X it (eN Sf it) Sf T0 tb 0 0 (kwS (cdC X ta (whO X tb S)) (akY X ta (cdC X ta (whO X tb S)))) (m2 + 1) q := hT
  have pl0 := pl
  obtain ⟨js, sl, hdd, r83, hj, ln, lm, ps⟩ := pl
  have fo := FR.wo (X := X) (tb := tb) hS
  have eW : (whO X tb S) = sI S 82 0 (S.1 82 0 &&& (gvA X tb S 0 ^^^ (-1))) := by unfold whO; rw [if_neg (by rw [r83]; decide)]
  have oW : ∀ k, k ≠ 82 → (whO X tb S).1 k = S.1 k := fun k hk => by rw [eW, sI_ne hk]
  have W77 : (whO X tb S).1 77 0 = S.1 77 0 := by rw [oW 77 (by omega)]
  have jsW := js.fr fo W77
  have slW' := sl.fn fo.1.fn W77
  have hCW : Ck (whO X tb S) := ge.2.1
  have fsW : FW (whO X tb S) Sf := (FE.fw (chk_fe (X := X) ta 0 0 (whO X tb S))).tr ge.2.2.2.2
  have iv := pl0.iv hC hF cx.2.1
  have ivW := jsW.iv slW' hCW fsW cx.2.1
  have vwW := vw_of jsW.2.1 slW' hCW fsW cx.2.1
  have e0 : stS X it (tD 22 i e ta tb) ys no j S = whC X (stS X it tb) ta tb i S := rfl
  have c7 : (cdC X ta (whO X tb S)).1 7 0 = 0 := by
    refine Decidable.byContradiction fun w => ?_
    rw [e0] at h7'
    unfold whC at h7'
    dsimp only at h7'
    rw [if_neg w] at h7'
    exact w h7'
  obtain ⟨eC, _⟩ := cd_ok c7 ge.2.2.2.1
  have fe := chk_fe (X := X) ta 0 0 (whO X tb S)
  obtain ⟨p1, p2, p3, p4, p5, p6⟩ := fe_8 fe
  obtain ⟨c1, c2⟩ := chk_iv cx ge
  obtain ⟨_, g0, _, _, _, e86, _, _, g8, _⟩ := jsW.1.mg
  have fcW : FR (whO X tb S) (cdC X ta (whO X tb S)) := by rw [eC]; exact FR.of (FV.fe fe) (FP.fe fe) e86 g8
  have fc : FR S (cdC X ta (whO X tb S)) := fo.on fcW
  have C77 : (cdC X ta (whO X tb S)).1 77 0 = S.1 77 0 := by rw [cd_77, W77]
  have C83 : (cdC X ta (whO X tb S)).1 83 0 = 1 := by rw [eC, p6, oW 83 (by omega)]; exact r83
  have C75 : (cdC X ta (whO X tb S)).1 75 0 = S.1 75 0 := by rw [eC, fe.1 75 (by unfold fE; omega), oW 75 (by omega)]
  have C81 : (cdC X ta (whO X tb S)).1 81 0 = S.1 81 0 := by rw [cd_8.1, oW 81 (by omega)]
  have C82 : (cdC X ta (whO X tb S)).1 82 0 = (whO X tb S).1 82 0 := cd_8.2
  have jsC := js.fr fc C77
  have slC := sl.fn fc.1.fn C77
  have vwC : VwS Sf (cdC X ta (whO X tb S)) := vw_of jsC.2.1 slC (by rw [eC]; exact c1) (by rw [eC]; exact ge.2.2.2.2) cx.2.1
  have jsK := (jsC.kw (x := akY X ta (cdC X ta (whO X tb S))) vwC).1
  have kw := kw_8 (S := (cdC X ta (whO X tb S))) (x := akY X ta (cdC X ta (whO X tb S)))
  have fK : FR S (kwS (cdC X ta (whO X tb S)) (akY X ta (cdC X ta (whO X tb S)))) := kw_fr fc
  have K77 : (kwS (cdC X ta (whO X tb S)) (akY X ta (cdC X ta (whO X tb S)))).1 77 0 = S.1 77 0 := by rw [kw.2.2.2.1, C77]
  have slK := sl.fn fK.1.fn K77
  have hjW : Sf.2 16 = (whO X tb S).2 16 ∧ Sf.2 32 = (whO X tb S).2 32 := by rw [eW]; exact hj
  have hjK : Sf.2 16 = (kwS (cdC X ta (whO X tb S)) (akY X ta (cdC X ta (whO X tb S)))).2 16 ∧ Sf.2 32 = (kwS (cdC X ta (whO X tb S)) (akY X ta (cdC X ta (whO X tb S)))).2 32 := by rw [kw.2.2.2.2.2, eC, fe.2.1]; exact hjW
  obtain ⟨fb, vb⟩ := fr_all (it := it) (en := eN Sf it) hf0 tb 0 0 0 _ gb (js.1.fr fK)
  have vb := vb (blk_of hwb)
  obtain ⟨s1, k1⟩ := kn_all (en := eN Sf it) hf0 tb 2 _ _ _ _ _ _ 0 0 0 _ hwb gb (js.1.fr fK) slK
  have fT2 : FR S (stS X it tb 0 0 0 (kwS (cdC X ta (whO X tb S)) (akY X ta (cdC X ta (whO X tb S))))) := fK.on fb
  have T77 : (stS X it tb 0 0 0 (kwS (cdC X ta (whO X tb S)) (akY X ta (cdC X ta (whO X tb S))))).1 77 0 = S.1 77 0 := by rw [vb, K77]
  have ck2 := ckf_of cx hf0 hwb gb
  have t7 := t7_of cx hf0 hwb gb
  have ivT2 : IvP Sf it (stS X it tb 0 0 0 (kwS (cdC X ta (whO X tb S)) (akY X ta (cdC X ta (whO X tb S))))) [] hs := (js.fr fT2 T77).iv (sl.fv fT2.1 T77 (Nat.le_refl _) sl.1) ck2.1 ck2.2 cx.2.1
  have h20 : vn S ≤ 20 := sl.2.1
  have W82 : ∀ u s, u < vn S → S.1 79 u = nI s → s < 20 → fi ((whO X tb S).1 82 0) s = true → ¬ AsR X tb S u := fun u s hu h79 hs hf ha => by
    rw [eW, sI_v, fi_an] at hf
    have h2 := (Bool.and_eq_true_iff.mp hf).2
    rw [fi_xr, fi_m1 (by omega)] at h2
    have : fi (gvA X tb S 0) s = true := (gv_iff (by omega) (fun u hu => by obtain ⟨s, s1, s2⟩ := sl.2.2.1 u hu; exact ⟨s, s1, by have := sl.1; omega⟩) h20 tb 0).mpr (Or.inr ⟨u, hu, ha, h79⟩)
    rw [this] at h2
    cases h2
  -- the end of the BLOCK goes back to where the while begins
  have back : (stS X it tb 0 0 0 (kwS (cdC X ta (whO X tb S)) (akY X ta (cdC X ta (whO X tb S))))).1 83 0 = 1 → WkS Sf (stS X it tb 0 0 0 (kwS (cdC X ta (whO X tb S)) (akY X ta (cdC X ta (whO X tb S))))) (whO X tb S) := fun h2 => by
    have T75 : (stS X it tb 0 0 0 (kwS (cdC X ta (whO X tb S)) (akY X ta (cdC X ta (whO X tb S))))).1 75 0 = (cdC X ta (whO X tb S)).1 75 0 := by
      refine Decidable.byContradiction fun w => ?_
      rw [e0] at h7'
      unfold whC at h7'
      dsimp only at h7'
      rw [if_pos c7, if_pos ⟨t7, by rw [h2]; decide, w⟩, kw_8.2.2.2.2.1, rs_8.2.2.2.2.2.1] at h7'
      exact flT_bad (by decide) h7'
    refine wk_fr fT2 fo T77 W77 (by rw [oW 75 (by omega), T75, C75]) (fun u s hu h79 hs hf => ?_) (fun u s hu h79 hs hf => ?_)
    · obtain ⟨a1, _⟩ := k1 u s (by have := fK.1.2.2.2.2.1; omega) (by rw [(fK.1.2.2.2.2.2.1 u hu).1]; exact h79) hs
      rw [oW 81 (by omega)] at hf
      exact a1 (by rw [kw.1, C81]; exact hf)
    · obtain ⟨_, a2⟩ := k1 u s (by have := fK.1.2.2.2.2.1; omega) (by rw [(fK.1.2.2.2.2.2.1 u hu).1]; exact h79) hs
      refine a2 ?_ (fun ha => W82 u s hu h79 hs hf (ha.fv fK.1.fn hu (by unfold vn at h20 ⊢; rw [K77]; omega)))
      have hc : fi ((cdC X ta (whO X tb S)).1 82 0) s = true := by rw [C82]; exact hf
      unfold kwS
      split
      · exact hc
      · rw [sI_v, fi_or, hc]; rfl
  have k5 : n + 1 ≤ n2 := by have := r2.1; omega
  have k6 : m + 1 ≤ m2 := by have := t2.1; omega
  have wkS : WkS Sf S (whO X tb S) := wk_fr (FR.rf hS) fo rfl W77 (by rw [oW 75 (by omega)]) (fun u s _ _ _ w => by rw [oW 81 (by omega)] at w; exact w) (fun u s _ _ _ w => by rw [eW, sI_v, fi_an] at w; exact (Bool.and_eq_true_iff.mp w).1)
  -- behind it
  have out : Gdk M0 T0 Sf n1 it k (q + 1) (qm + 1) (kwS (cdC X ta (whO X tb S)) (akN X ta (cdC X ta (whO X tb S)))) [] hs := by
    rw [e0] at cont
    unfold whC at cont
    dsimp only at cont
    rw [if_pos c7] at cont
    have cond : ¬ ((stS X it tb 0 0 0 (kwS (cdC X ta (whO X tb S)) (akY X ta (cdC X ta (whO X tb S))))).1 7 0 = 0 ∧ ¬ (stS X it tb 0 0 0 (kwS (cdC X ta (whO X tb S)) (akY X ta (cdC X ta (whO X tb S))))).1 83 0 = 0 ∧ ¬ (stS X it tb 0 0 0 (kwS (cdC X ta (whO X tb S)) (akY X ta (cdC X ta (whO X tb S))))).1 75 0 = (cdC X ta (whO X tb S)).1 75 0) := fun w => by
      rw [e0] at h7'
      unfold whC at h7'
      dsimp only at h7'
      rw [if_pos c7, if_pos w, kw_8.2.2.2.2.1, rs_8.2.2.2.2.2.1] at h7'
      exact flT_bad (by decide) h7'
    rw [if_neg cond] at cont
    have rs := rs_8 (S := (stS X it tb 0 0 0 (kwS (cdC X ta (whO X tb S)) (akY X ta (cdC X ta (whO X tb S)))))) (a1 := (cdC X ta (whO X tb S)).1 81 0) (a2 := (cdC X ta (whO X tb S)).1 82 0) (a3 := (cdC X ta (whO X tb S)).1 75 0) (a4 := (cdC X ta (whO X tb S)).1 83 0)
    have kr := kw_8 (S := rsS (stS X it tb 0 0 0 (kwS (cdC X ta (whO X tb S)) (akY X ta (cdC X ta (whO X tb S))))) ((cdC X ta (whO X tb S)).1 81 0) ((cdC X ta (whO X tb S)).1 82 0) ((cdC X ta (whO X tb S)).1 75 0) ((cdC X ta (whO X tb S)).1 83 0)) (x := akN X ta (cdC X ta (whO X tb S)))
    have kn := kw_8 (S := (cdC X ta (whO X tb S))) (x := akN X ta (cdC X ta (whO X tb S)))
    have fR : FR (cdC X ta (whO X tb S)) (rsS (stS X it tb 0 0 0 (kwS (cdC X ta (whO X tb S)) (akY X ta (cdC X ta (whO X tb S))))) ((cdC X ta (whO X tb S)).1 81 0) ((cdC X ta (whO X tb S)).1 82 0) ((cdC X ta (whO X tb S)).1 75 0) ((cdC X ta (whO X tb S)).1 83 0)) := by
      have fKC : FR (cdC X ta (whO X tb S)) (stS X it tb 0 0 0 (kwS (cdC X ta (whO X tb S)) (akY X ta (cdC X ta (whO X tb S))))) := by
        obtain ⟨_, g1, _, _, _, e86', _, _, g8', _⟩ := jsC.1.mg
        exact (FR.of FV.kw FP.kw e86' g8').on fb
      exact rs_fr fKC
    obtain ⟨_, g1, _, _, _, e86', _, _, g8', _⟩ := jsC.1.mg
    refine (cont (by rw [kr.2.1, rs.2.2.2.1]; exact C83)).wk (wk_fr (S := (cdC X ta (whO X tb S))) (FR.of FV.kw FP.kw e86' g8') (kw_fr fR) kn.2.2.2.1 (by rw [kr.2.2.2.1, rs.2.2.2.2.1, T77, C77]) (by rw [kr.2.2.1, rs.2.2.1, kn.2.2.1]) (fun u s _ _ _ w => by rw [kr.1, rs.1] at w; rw [kn.1]; exact w) (fun u s _ _ _ w => by rw [kw_82 (S := (cdC X ta (whO X tb S))) rs.2.1] at w; exact w))
  have loop : ∀ k', k' ≤ k → Gdk M0 T0 Sf n1 it k' n m (whO X tb S) [] hs := by
    intro k'
    induction k' with
    | zero => intro _; trivial
    | succ k' ih =>
      intro hk'
      have ih := ih (by omega)
      refine gd_stp ivW (by omega) (by omega) (ps.le (by omega) (by omega)) r1 t1 ?_
      refine gd_cd cx hjW ge hx hdd jsW slW' hCW fsW c7 r2 t2 r4 t4 (by omega) (by omega) ln lm (ps.le (by omega) (by omega)) ?_ (out.le hk')
      refine (ihB 2 c b v g v' g' (dd + 1) 0 0 0 (kwS (cdC X ta (whO X tb S)) (akY X ta (cdC X ta (whO X tb S)))) (n2 + 1) q (m2 + 1) qm (k' + 1) hs hwb sb gb cb kb ⟨jsK.deep (by omega) (by omega), slK, by omega, by rw [kw.2.1]; exact C83, hjK, by omega, by omega, ps.le (by omega) (by omega)⟩ (kv.sub (fun S u h => as_b (by omega) h)) (fun h2 => ?_)).1 (by omega)
      exact gd_ru ivT2 (by omega) (by omega) (ps.le (by omega) (by omega)) (fun j hj => Or.inr (Or.inr (Or.inr (Or.inr (Or.inl ⟨n, m, 0, 0, 0, r5, t5, Or.inr (by rw [r1]), by omega, by omega, (ih.wk (back h2)).le (by omega)⟩)))))
  exact (loop k (Nat.le_refl _)).wk wkS
end SUS
