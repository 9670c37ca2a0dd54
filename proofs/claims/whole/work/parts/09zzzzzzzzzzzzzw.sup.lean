/-! places of the code: the two ways of an if */
-/
section SUP
variable {v0 n0 : Nat} {st1 kq1 lv1 rc1 : Int32} {M0 T0 S S' S1 S2 S3 Sf : gSt} {X : Lx} {it e v g n n' n2 m m' m2 k i q c en j a b v' g' dd dd' u s n1 B L p : Nat} {t ta tb : Tr} {x y r w ys no b0 t1 pl' : Int32} {st st' s0 : List Int32} {hs : List HD} {jj : T5} {ks js : List T5}
/-- from a state to another over the same VARS: what is known there is known here */
-/
theorem wk_fr (f1 : FR S S1) (f2 : FR S S2) (h1 : S1.1 77 0 = S.1 77 0) (h2 : S2.1 77 0 = S.1 77 0) (e75 : S2.1 75 0 = S1.1 75 0) (h81 : ∀ u s, u < vn S → S.1 79 u = nI s → s < 20 → fi (S2.1 81 0) s = true → fi (S1.1 81 0) s = true) (h82 : ∀ u s, u < vn S → S.1 79 u = nI s → s < 20 → fi (S2.1 82 0) s = true → fi (S1.1 82 0) s = true) : WkS Sf S1 S2 := by
  obtain ⟨a1, a2, a3, a4, a5, a6, a7⟩ := f1.1
  obtain ⟨b1, b2, b3, b4, b5, b6, b7⟩ := f2.1
  have v1 : vn S1 = vn S := by unfold vn; rw [h1]
  have v2 : vn S2 = vn S := by unfold vn; rw [h2]
  have r1 : rn S1 = rn S := by unfold rn; rw [a1]
  have n1 : arn S1 = arn S := by unfold arn; rw [a3]
  refine wk_of ⟨b1.trans a1.symm, fun k hk => (b2 k (by omega)).trans (a2 k (by omega)).symm, b3.trans a3.symm, fun q hq => (b4 q (by omega)).trans (a4 q (by omega)).symm, by omega, fun u hu => ?_, b7.trans a7.symm⟩ (by omega) e75 (f2.2.1.trans f1.2.1.symm) (f2.2.2.1.trans f1.2.2.1.symm) (fun u s hu h79 hs => ?_) (fun u s hu h79 hs => ?_)
  · obtain ⟨c1, c2, c3⟩ := a6 u (by omega)
    obtain ⟨d1, d2, d3⟩ := b6 u (by omega)
    exact ⟨d1.trans c1.symm, d2.trans c2.symm, d3.trans c3.symm⟩
  · exact h81 u s (by omega) (by rw [← (a6 u (by omega)).1]; exact h79) hs
  · exact h82 u s (by omega) (by rw [← (a6 u (by omega)).1]; exact h79) hs
/-- what a meeting tells */
-/
theorem mt_v (h7 : (mtS S1 st1 kq1 lv1 rc1 pl').1 7 0 = 0) (h0 : S1.1 7 0 = 0) (hr : S1.1 83 0 = 0 ∨ S1.1 83 0 = 1) (hrc : rc1 = 0 ∨ rc1 = 1) : (S1.1 83 0 = 1 → rc1 = 1 → S1.1 75 0 = lv1 ∧ (mtS S1 st1 kq1 lv1 rc1 pl').1 75 0 = lv1 ∧ (mtS S1 st1 kq1 lv1 rc1 pl').1 83 0 = 1 ∧ (mtS S1 st1 kq1 lv1 rc1 pl').1 81 0 = S1.1 81 0 &&& st1 ∧ (mtS S1 st1 kq1 lv1 rc1 pl').1 82 0 = S1.1 82 0 &&& kq1) ∧ (S1.1 83 0 = 1 → rc1 = 0 → mtS S1 st1 kq1 lv1 rc1 pl' = S1) ∧ (S1.1 83 0 = 0 → mtS S1 st1 kq1 lv1 rc1 pl' = rsS S1 st1 kq1 lv1 rc1) := by
  unfold mtS at h7 ⊢
  refine ⟨fun w1 w2 => ?_, fun w1 w2 => ?_, fun w1 => ?_⟩
  · have c : ¬ S1.1 83 0 = 0 ∧ ¬ rc1 = 0 := ⟨by rw [w1]; decide, by rw [w2]; decide⟩
    rw [if_pos c] at h7 ⊢
    by_cases d : S1.1 75 0 = lv1
    · rw [if_pos d]
      exact ⟨d, by rw [sI_ne (by omega), sI_ne (by omega)]; exact d, by rw [sI_ne (by omega), sI_ne (by omega)]; exact w1, by rw [sI_ne (by omega), sI_v], by rw [sI_v]⟩
    · rw [if_neg d, sI_ne (by omega), sI_ne (by omega)] at h7
      exact absurd h7 (flT_bad (by decide))
  · rw [if_neg (fun c => c.2 w2), if_neg]
    rintro (c | c)
    · exact c w2
    · rw [w1] at c; exact absurd c (by decide)
  · rw [if_neg (fun c => c.1 w1), if_pos (Or.inr w1)]
theorem kw_8 : (kwS S x).1 81 0 = S.1 81 0 ∧ (kwS S x).1 83 0 = S.1 83 0 ∧ (kwS S x).1 75 0 = S.1 75 0 ∧ (kwS S x).1 77 0 = S.1 77 0 ∧ (kwS S x).1 7 0 = S.1 7 0 ∧ (kwS S x).2 = S.2 := by
  unfold kwS
  split
  · exact ⟨rfl, rfl, rfl, rfl, rfl, rfl⟩
  · exact ⟨by rw [sI_ne (by omega)], by rw [sI_ne (by omega)], by rw [sI_ne (by omega)], by rw [sI_ne (by omega)], by rw [sI_ne (by omega)], rfl⟩
theorem rs_8 {a1 a2 a3 a4 : Int32} : (rsS S a1 a2 a3 a4).1 81 0 = a1 ∧ (rsS S a1 a2 a3 a4).1 82 0 = a2 ∧ (rsS S a1 a2 a3 a4).1 75 0 = a3 ∧ (rsS S a1 a2 a3 a4).1 83 0 = a4 ∧ (rsS S a1 a2 a3 a4).1 77 0 = S.1 77 0 ∧ (rsS S a1 a2 a3 a4).1 7 0 = S.1 7 0 ∧ (rsS S a1 a2 a3 a4).2 = S.2 := by
  unfold rsS
  refine ⟨?_, ?_, ?_, by rw [sI_v], ?_, ?_, rfl⟩
  · rw [sI_ne (by omega), sI_ne (by omega), sI_ne (by omega), sI_v]
  · rw [sI_ne (by omega), sI_ne (by omega), sI_v]
  · rw [sI_ne (by omega), sI_v]
  · rw [sI_ne (by omega), sI_ne (by omega), sI_ne (by omega), sI_ne (by omega)]
  · rw [sI_ne (by omega), sI_ne (by omega), sI_ne (by omega), sI_ne (by omega)]
theorem kw_82 {S1 : gSt} (h : S1.1 82 0 = S.1 82 0) : (kwS S1 x).1 82 0 = (kwS S x).1 82 0 := by
  unfold kwS
  split
  · exact h
  · rw [sI_v, sI_v, h]
theorem tr_of (h : Ws X t 2 a b v g v' g') : ∃ i e ta tb, t = tD 31 i e ta tb := by
  unfold Ws at h
  split at h
  · next k i e ta tb =>
    unfold WsN at h
    rw [if_pos rfl] at h
    obtain ⟨rfl, _⟩ := h
    exact ⟨i, e, ta, tb, rfl⟩
  · exact absurd h.1 (by omega)
  · exact h.elim
theorem ckf_of (cx : CxP M0 T0 Sf) (hf0 : Sf.1 7 0 = 0) (hw : Ws X t 2 a b v g v' g') (gk : Gk X it Sf t ys no j S) : Ck (stS X it t ys no j S) ∧ FW (stS X it t ys no j S) Sf := by
  obtain ⟨i, e, ta, tb, rfl⟩ := tr_of hw
  obtain ⟨_, _, h3, h4, _⟩ := gk_ck cx.2.1 hf0 gk
  exact ⟨h3, h4⟩
theorem rc_of (cx : CxP M0 T0 Sf) (hf0 : Sf.1 7 0 = 0) (hw : Ws X t 2 a b v g v' g') (gk : Gk X it Sf t ys no j S) : (stS X it t ys no j S).1 83 0 = 0 ∨ (stS X it t ys no j S).1 83 0 = 1 := by
  obtain ⟨i, e, ta, tb, rfl⟩ := tr_of hw
  exact (gk_ck cx.2.1 hf0 gk).2.2.2.2.2.2.2
theorem t7_of (cx : CxP M0 T0 Sf) (hf0 : Sf.1 7 0 = 0) (hw : Ws X t 2 a b v g v' g') (gk : Gk X it Sf t ys no j S) : (stS X it t ys no j S).1 7 0 = 0 := by
  obtain ⟨i, e, ta, tb, rfl⟩ := tr_of hw
  exact (gk_ck cx.2.1 hf0 gk).2.2.2.2.1
theorem em_of (hw : Ws X t 2 a b v g v' g') (em : emB t = true) (hc : CdS X it M0 t ys no S n n') : n' = n ∧ stS X it t ys no j S = sI S 77 0 (S.1 77 0) := by
  obtain ⟨i, e, ta, tb, rfl⟩ := tr_of hw
  have z : isZ ta = true := em
  obtain ⟨n0, rfl⟩ := isZ_num z
  exact ⟨hc, rfl⟩
theorem gd_12 (cx : CxP M0 T0 Sf) (hf0 : Sf.1 7 0 = 0) (ihA : GdQ M0 T0 Sf X it n1 ta) (ihB : GdQ M0 T0 Sf X it n1 tb) (hw : Ws X (tD 12 i e ta tb) 3 a b v g v' g') (hg : SG X (tD 12 i e ta tb) dd 3) (gk : Gk X it Sf (tD 12 i e ta tb) ys no j S) (hR : CdS X it M0 (tD 12 i e ta tb) ys no S n n') (hT : KdS X it (eN Sf it) Sf T0 (tD 12 i e ta tb) ys no S m m') (pl : PlH T0 Sf it n1 dd v S hs n' m') (kv : KvP X (tD 12 i e ta tb) hs) (cont : (stS X it (tD 12 i e ta tb) ys no j S).1 83 0 = 1 → Gdk M0 T0 Sf n1 it k n' m' (stS X it (tD 12 i e ta tb) ys no j S) [] hs) : ∃ nx mx, M0.1 97 n = nI nx ∧ T0.1 49 m = nI mx ∧ n < nx ∧ m < mx ∧ nx < 12000 ∧ mx < n1 ∧ Gdk M0 T0 Sf n1 it k (n + 1) (m + 1) (kwS S ys) [] hs ∧ Gdk M0 T0 Sf n1 it k nx mx (kwS S no) [] hs := by
  obtain ⟨hC, hF, hC', hF', h7', h0, ⟨vv, gg, nn, hS⟩, _⟩ := gk_ck cx.2.1 hf0 gk
  rw [Gk_n] at gk
  obtain ⟨_, _, _, gk⟩ := gk
  unfold GkN at gk
  rw [if_neg (by decide), if_neg (by decide), if_pos (by decide)] at gk
  obtain ⟨ga, gb⟩ := gk
  rw [Ws_n] at hw
  unfold WsN at hw
  rw [if_neg (by omega), if_neg (by omega), if_pos rfl] at hw
  obtain ⟨_, c, v1, g1, hwa, hwb⟩ := hw
  obtain ⟨_, sa, sb⟩ : 12 = 12 ∧ SG X ta dd 2 ∧ (isZ tb = true ∨ SG X tb dd 2) := hg
  obtain ⟨q, q1, q2, ca, cb⟩ : ∃ q, n + 1 ≤ q ∧ q ≤ n' ∧ CdS X it M0 ta 0 0 (kwS S ys) (n + 1) q ∧ (if isZ tb = true then n' = q ∧ M0.1 97 n = nI q else rwC4 M0 q = (27, nI n', 0, 0) ∧ M0.1 97 n = nI (q + 1) ∧ q + 1 ≤ n' ∧ CdS X it M0 tb 0 0 (prE (stS X it ta) ys no S) (q + 1) n') := hR
  obtain ⟨r, r1, r2, ka, kb⟩ : ∃ r, m + 1 ≤ r ∧ r ≤ m' ∧ KdS X it (eN Sf it) Sf T0 ta 0 0 (kwS S ys) (m + 1) r ∧ (if emB tb = true then m' = r ∧ T0.1 49 m = nI r else cw3 T0 r = (50, nI m', 0) ∧ T0.1 49 m = nI (r + 1) ∧ r + 1 ≤ m' ∧ KdS X it (eN Sf it) Sf T0 tb 0 0 (prE (stS X it ta) ys no S) (r + 1) m') := hT
  have e0 : stS X it (tD 12 i e ta tb) ys no j S = prC X (stS X it ta) (stS X it tb) (isZ tb) ys no j S := rfl
  obtain ⟨js, sl, hdd, r83, hj, ln, lm, ps⟩ := pl
  have kw := kw_8 (S := S) (x := ys)
  have fk : FR S (kwS S ys) := kw_fr (FR.rf hS)
  have jsk := js.fr fk kw.2.2.2.1
  have slk := sl.fn fk.1.fn kw.2.2.2.1
  obtain ⟨fa, va⟩ := fr_all (it := it) (en := eN Sf it) hf0 ta 0 0 0 _ ga (js.1.fr fk)
  have va := va (blk_of hwa)
  have fS := st_fs (X := X) (it := it) ta 0 0 0 (kwS S ys)
  have fp : FR S (prE (stS X it ta) ys no S) := by unfold prE; exact kw_fr (rs_fr (fk.on fa))
  have fT2 : FR S (stS X it ta 0 0 0 (kwS S ys)) := fk.on fa
  have v2 : (stS X it ta 0 0 0 (kwS S ys)).1 77 0 = S.1 77 0 := by rw [va, kw.2.2.2.1]
  have rs := rs_8 (S := (stS X it ta 0 0 0 (kwS S ys))) (a1 := S.1 81 0) (a2 := S.1 82 0) (a3 := S.1 75 0) (a4 := S.1 83 0)
  have kp := kw_8 (S := rsS (stS X it ta 0 0 0 (kwS S ys)) (S.1 81 0) (S.1 82 0) (S.1 75 0) (S.1 83 0)) (x := no)
  have p77 : (prE (stS X it ta) ys no S).1 77 0 = S.1 77 0 := by unfold prE; rw [kp.2.2.2.1, rs.2.2.2.2.1, v2]
  have p83 : (prE (stS X it ta) ys no S).1 83 0 = 1 := by unfold prE; rw [kp.2.1, rs.2.2.2.1]; exact r83
  have p75 : (prE (stS X it ta) ys no S).1 75 0 = S.1 75 0 := by unfold prE; rw [kp.2.2.1, rs.2.2.1]
  have p81 : (prE (stS X it ta) ys no S).1 81 0 = S.1 81 0 := by unfold prE; rw [kp.1, rs.1]
  have p82 : (prE (stS X it ta) ys no S).1 82 0 = (kwS S no).1 82 0 := by unfold prE; exact kw_82 rs.2.1
  have kno := kw_8 (S := S) (x := no)
  have fno : FR S (kwS S no) := kw_fr (FR.rf hS)
  have wkP : WkS Sf (kwS S no) (prE (stS X it ta) ys no S) := wk_fr fno fp kno.2.2.2.1 p77 (by rw [p75, kno.2.2.1]) (fun u s _ _ _ w => by rw [kno.1]; rw [p81] at w; exact w) (fun u s _ _ _ w => by rw [p82] at w; exact w)
  obtain ⟨s1, k1⟩ := kn_all (en := eN Sf it) hf0 ta 2 _ _ _ _ _ _ 0 0 0 _ hwa ga (js.1.fr fk) slk
  have rT2 : (stS X it ta 0 0 0 (kwS S ys)).1 83 0 = 0 ∨ (stS X it ta 0 0 0 (kwS S ys)).1 83 0 = 1 := rc_of cx hf0 hwa ga
  have t7 : (stS X it ta 0 0 0 (kwS S ys)).1 7 0 = 0 := t7_of cx hf0 hwa ga
  -- the last state, T4 behind the second way
  have fin : ∀ T4 : gSt, stS X it (tD 12 i e ta tb) ys no j S = (mtS T4 ((stS X it ta 0 0 0 (kwS S ys)).1 81 0) ((stS X it ta 0 0 0 (kwS S ys)).1 82 0) ((stS X it ta 0 0 0 (kwS S ys)).1 75 0) ((stS X it ta 0 0 0 (kwS S ys)).1 83 0) (nI (xP X j))) → FR S T4 → T4.1 77 0 = S.1 77 0 → T4.1 7 0 = 0 → (T4.1 83 0 = 0 ∨ T4.1 83 0 = 1) → ((stS X it ta 0 0 0 (kwS S ys)).1 83 0 = 1 → Gdk M0 T0 Sf n1 it k n' m' (stS X it ta 0 0 0 (kwS S ys)) [] hs) ∧ (T4.1 83 0 = 1 → Gdk M0 T0 Sf n1 it k n' m' T4 [] hs) := fun T4 e4 f4 v4 z4 r4 => by
    have fm : FR S (mtS T4 ((stS X it ta 0 0 0 (kwS S ys)).1 81 0) ((stS X it ta 0 0 0 (kwS S ys)).1 82 0) ((stS X it ta 0 0 0 (kwS S ys)).1 75 0) ((stS X it ta 0 0 0 (kwS S ys)).1 83 0) (nI (xP X j))) := f4.mt fT2 rfl
    have m77 : (mtS T4 ((stS X it ta 0 0 0 (kwS S ys)).1 81 0) ((stS X it ta 0 0 0 (kwS S ys)).1 82 0) ((stS X it ta 0 0 0 (kwS S ys)).1 75 0) ((stS X it ta 0 0 0 (kwS S ys)).1 83 0) (nI (xP X j))).1 77 0 = S.1 77 0 := by rw [(FO.mt).1 77 (by unfold fO; omega), v4]
    rw [e4] at h7' cont
    obtain ⟨m1, m2, m3⟩ := mt_v h7' z4 r4 rT2
    refine ⟨fun h2 => ?_, fun h4 => ?_⟩
    · rcases r4 with r4 | r4
      · have e := m3 r4
        have rs := rs_8 (S := T4) (a1 := (stS X it ta 0 0 0 (kwS S ys)).1 81 0) (a2 := (stS X it ta 0 0 0 (kwS S ys)).1 82 0) (a3 := (stS X it ta 0 0 0 (kwS S ys)).1 75 0) (a4 := (stS X it ta 0 0 0 (kwS S ys)).1 83 0)
        rw [e] at cont fm m77
        exact (cont (by rw [rs.2.2.2.1]; exact h2)).wk (wk_fr fT2 fm v2 m77 rs.2.2.1 (fun u s _ _ _ w => by rw [rs.1] at w; exact w) (fun u s _ _ _ w => by rw [rs.2.1] at w; exact w))
      · obtain ⟨x1, x2, x3, x4, x5⟩ := m1 r4 h2
        refine (cont x3).wk (wk_fr fT2 fm v2 m77 x2 (fun u s _ _ _ w => ?_) (fun u s _ _ _ w => ?_))
        · rw [x4, fi_an] at w
          exact (Bool.and_eq_true_iff.mp w).2
        · rw [x5, fi_an] at w
          exact (Bool.and_eq_true_iff.mp w).2
    · rcases rT2 with r2 | r2
      · have e := m2 h4 r2
        rw [e] at cont
        exact cont h4
      · obtain ⟨x1, x2, x3, x4, x5⟩ := m1 h4 r2
        refine (cont x3).wk (wk_fr f4 fm v4 m77 (by rw [x2, x1]) (fun u s _ _ _ w => ?_) (fun u s _ _ _ w => ?_))
        · rw [x4, fi_an] at w
          exact (Bool.and_eq_true_iff.mp w).1
        · rw [x5, fi_an] at w
          exact (Bool.and_eq_true_iff.mp w).1
  have hjk : Sf.2 16 = (kwS S ys).2 16 ∧ Sf.2 32 = (kwS S ys).2 32 := by rw [kw.2.2.2.2.2]; exact hj
  -- the first way
  have goA : ∀ (hq : (stS X it ta 0 0 0 (kwS S ys)).1 83 0 = 1 → Gdk M0 T0 Sf n1 it k q r (stS X it ta 0 0 0 (kwS S ys)) [] hs), Gdk M0 T0 Sf n1 it k (n + 1) (m + 1) (kwS S ys) [] hs := fun hq => (ihA 2 _ _ v g v1 g1 dd 0 0 0 (kwS S ys) (n + 1) q (m + 1) r k hs hwa sa ga ca ka ⟨jsk, slk, hdd, by rw [kw.2.1]; exact r83, hjk, by omega, by omega, ps.le q2 r2⟩ (kv.sub (fun S u h => as_a (by omega) h)) hq).1 (by omega)
  have ck2 := ckf_of cx hf0 hwa ga
  have ivT2 : IvP Sf it (stS X it ta 0 0 0 (kwS S ys)) [] hs := (js.fr fT2 v2).iv (sl.fv fT2.1 v2 (Nat.le_refl _) sl.1) ck2.1 ck2.2 cx.2.1
  by_cases z : isZ tb = true
  · rw [if_pos z] at cb hwb
    have em : emB tb = true := by obtain ⟨n0, rfl⟩ := isZ_num z; rfl
    rw [if_pos em] at kb
    obtain ⟨rfl, cb⟩ := cb
    obtain ⟨rfl, kb⟩ := kb
    have e4 : stS X it (tD 12 i e ta tb) ys no j S = (mtS (prE (stS X it ta) ys no S) ((stS X it ta 0 0 0 (kwS S ys)).1 81 0) ((stS X it ta 0 0 0 (kwS S ys)).1 82 0) ((stS X it ta 0 0 0 (kwS S ys)).1 75 0) ((stS X it ta 0 0 0 (kwS S ys)).1 83 0) (nI (xP X j))) := by
      rw [e0]
      unfold prC
      dsimp only
      rw [z, if_pos t7]
      simp only [if_true]
      have p7 : (prE (stS X it ta) ys no S).1 7 0 = 0 := by unfold prE; rw [kp.2.2.2.2.1, rs.2.2.2.2.2.1]; exact t7
      unfold prE at p7 ⊢
      rw [if_pos p7]
    have p7 : (prE (stS X it ta) ys no S).1 7 0 = 0 := by unfold prE; rw [kp.2.2.2.2.1, rs.2.2.2.2.2.1]; exact t7
    obtain ⟨f1, f2⟩ := fin (prE (stS X it ta) ys no S) e4 fp p77 p7 (Or.inr p83)
    exact ⟨n', m', cb, kb, by omega, by omega, ln, lm, goA f1, (f2 p83).wk wkP⟩
  · rw [if_neg z] at cb hwb
    obtain ⟨cb1, cb2, cb3, cb4⟩ := cb
    have gb := gb.resolve_left z
    have sb := sb.resolve_left z
    have p7 : (prE (stS X it ta) ys no S).1 7 0 = 0 := by unfold prE; rw [kp.2.2.2.2.1, rs.2.2.2.2.2.1]; exact t7
    obtain ⟨fb, vb⟩ := fr_all (it := it) (en := eN Sf it) hf0 tb 0 0 0 _ gb (js.1.fr fp)
    have vb := vb (blk_of hwb)
    have b7 := t7_of cx hf0 hwb gb
    have rB := rc_of cx hf0 hwb gb
    have z' : isZ tb = false := by cases hz : isZ tb with | true => exact absurd hz z | false => rfl
    have e4 : stS X it (tD 12 i e ta tb) ys no j S = (mtS (stS X it tb 0 0 0 (prE (stS X it ta) ys no S)) ((stS X it ta 0 0 0 (kwS S ys)).1 81 0) ((stS X it ta 0 0 0 (kwS S ys)).1 82 0) ((stS X it ta 0 0 0 (kwS S ys)).1 75 0) ((stS X it ta 0 0 0 (kwS S ys)).1 83 0) (nI (xP X j))) := by
      rw [e0]
      unfold prC
      dsimp only
      rw [z', if_pos t7]
      simp only [if_neg (show ¬ (false = true) by decide)]
      unfold prE at b7 ⊢
      rw [if_pos b7]
    obtain ⟨f1, f2⟩ := fin (stS X it tb 0 0 0 (prE (stS X it ta) ys no S)) e4 (fp.on fb) (by rw [vb, p77]) b7 rB
    have slP := (sl.fn fp.1.fn p77).fv FV.rf rfl (Ws_mo _ _ _ _ _ _ _ _ hwa).2.1 s1.1
    have hjP : Sf.2 16 = (prE (stS X it ta) ys no S).2 16 ∧ Sf.2 32 = (prE (stS X it ta) ys no S).2 32 := by
      have eP : (prE (stS X it ta) ys no S).2 = (stS X it ta 0 0 0 (kwS S ys)).2 := by unfold prE; rw [kp.2.2.2.2.2, rs.2.2.2.2.2.2]
      rw [eP, fS.2.1 16 (by omega), fS.2.1 32 (by omega)]
      exact hjk
    by_cases em : emB tb = true
    · rw [if_pos em] at kb
      obtain ⟨rfl, kb⟩ := kb
      -- an empty BLOCK: the class has no rows for it
      obtain ⟨en', eS⟩ := em_of hwb em cb4
      have eB : (stS X it tb 0 0 0 (prE (stS X it ta) ys no S)) = sI (prE (stS X it ta) ys no S) 77 0 ((prE (stS X it ta) ys no S).1 77 0) := eS
      refine ⟨q + 1, m', cb2, kb, by omega, by omega, by omega, lm, goA (fun h2 => ?_), ?_⟩
      · exact gd_ru ivT2 (by omega) (by omega) (ps.le (by omega) (by omega)) (fun j hj => Or.inr (Or.inr (Or.inr (Or.inl ⟨n', 0, 0, cb1, by omega, ln, (f1 h2).le (by omega)⟩))))
      · rw [← en']
        refine Gdk.wk (f2 (by rw [eB, sI_ne (by omega)]; exact p83)) (wkP.tr ?_)
        rw [eB]
        exact wk_bl (S := (prE (stS X it ta) ys no S)) FV.rf
    · rw [if_neg em] at kb
      obtain ⟨kb1, kb2, kb3, kb4⟩ := kb
      refine ⟨q + 1, r + 1, cb2, kb2, by omega, by omega, by omega, by omega, goA (fun h2 => ?_), ?_⟩
      · exact gd_ru ivT2 (by omega) (by omega) (ps.le (by omega) (by omega)) (fun j hj => Or.inr (Or.inr (Or.inr (Or.inr (Or.inl ⟨n', m', 0, 0, 0, cb1, kb1, Or.inl ⟨by omega, by omega⟩, ln, lm, (f1 h2).le (by omega)⟩)))))
      · refine Gdk.wk ?_ wkP
        exact (ihB 2 _ _ v1 g1 v' g' dd 0 0 0 (prE (stS X it ta) ys no S) (q + 1) n' (r + 1) m' k hs hwb sb gb cb4 kb4 ⟨js.fr fp p77, slP, hdd, p83, hjP, ln, lm, ps⟩ (kv.sub (fun S u h => as_b (by omega) h)) f2).1 (by omega)
end SUP
