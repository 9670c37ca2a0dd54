/-! places of the code: assignments */
-/
section SUL
variable {v0 n0 : Nat} {M0 T0 S S' S1 S2 Sf : gSt} {X : Lx} {it e v g n n' n2 m m' m2 k i q c en j a b v' g' dd dd' u s n1 B L p : Nat} {t ta tb : Tr} {x y r w ys no b0 t1 : Int32} {st st' s0 : List Int32} {hs : List HD} {jj : T5} {ks js : List T5}
/-- KNOWN behind a value given */
-/
theorem gv_kn (he : s < 32) (h : fi ((gvS S (nI s) x y 1).1 82 0) s = true) : ¬ x ≤ 0 ∧ tf S 66 x = 2 ∧ ¬ y ≤ 0 ∧ tf S 66 y = 1 := by
  unfold gvS at h
  rw [sI_v] at h
  split at h
  · next w => exact w.2
  · rw [fi_of he he, if_pos rfl] at h
    cases h
theorem kn_rw (hC : Ck S) (hF : FW S Sf) (hc : cn Sf < 6000) (hy : tR S y) (h1 : ¬ y ≤ 0) (h2 : tf S 66 y = 1) : ∃ q, rowP Sf y q ∧ Sf.1 66 q = 1 := by
  rcases hy with e | e | e | ⟨p, e, p1, p2⟩
  · rw [e] at h1; exact absurd (by decide) h1
  · rw [e] at h1; exact absurd (by decide) h1
  · rw [e] at h1; exact absurd (by decide) h1
  · have c6 := hF.lt hC.1 hc
    refine ⟨p, ⟨e, p1, Nat.lt_of_lt_of_le p2 (hF.cnle hC.1)⟩, ?_⟩
    have r := hF.row hC.1 hc p2
    have r66 : Sf.1 66 p = S.1 66 p := (rwT_g (T := Sf) (p := p) (z := rwT S p) r).1
    unfold tf at h2
    rw [e, nc (by omega)] at h2
    rw [r66, h2]
theorem gd_29a (cx : CxP M0 T0 Sf) (pl : PlH T0 Sf it n1 dd v S hs n' m') (hC : Ck S) (hF : FW S Sf) (hC' : Ck (stS X it (tD 29 i e ta tb) ys no j S)) (hF' : FW (stS X it (tD 29 i e ta tb) ys no j S) Sf) (ge : GE X Sf tb S) (hx : XG X tb (19 - dd) 1 ∧ dd ≤ 19) (h4 : tkd X ta = 4) (kv : KvP X (tD 29 i e ta tb) hs) (hR : rwC4 M0 n = (0, nI p, 0, 0) ∧ ∃ n2, ExC M0 (chk X tb 0 0 S).2.2.1 (n + 1) n2 ∧ rwC4 M0 n2 = (22, tf (chk X tb 0 0 S).2.2.2 79 (fd (isVa (chk X tb 0 0 S).2.2.2 (xN X (lfI ta))) (vn (chk X tb 0 0 S).2.2.2)), 0, 0) ∧ n' = n2 + 1) (hT : cw3 T0 m = (1, nI p, 0) ∧ ∃ m2, KxC (eN Sf it) Sf T0 S (chk X tb 0 0 S).2.2.1 (m + 1) m2 ∧ KwO (eN Sf it) Sf T0 S 4 (slF (chk X tb 0 0 S).2.2.2 (tf (chk X tb 0 0 S).2.2.2 79 (fd (isVa (chk X tb 0 0 S).2.2.2 (xN X (lfI ta))) (vn (chk X tb 0 0 S).2.2.2)))) (tf (chk X tb 0 0 S).2.2.2 80 (fd (isVa (chk X tb 0 0 S).2.2.2 (xN X (lfI ta))) (vn (chk X tb 0 0 S).2.2.2))) m2 ∧ m' = m2 + 1) (hk : (stS X it (tD 29 i e ta tb) ys no j S).1 7 0 = 0) (cont : (stS X it (tD 29 i e ta tb) ys no j S).1 83 0 = 1 → Gdk M0 T0 Sf n1 it k n' m' (stS X it (tD 29 i e ta tb) ys no j S) [] hs) : Gdk M0 T0 Sf n1 it k n m S [] hs := by
  have iv := pl.iv hC hF cx.2.1
  obtain ⟨js, sl, hdd, r83, hj, ln, lm, ps⟩ := pl
  obtain ⟨r1, n2, r2, r3, rfl⟩ := hR
  obtain ⟨t1', m2, t2, ⟨cc, kw, t3⟩, rfl⟩ := hT
  have fe := chk_fe (X := X) tb 0 0 S
  obtain ⟨f1, f2, f3, f4, f5, f6⟩ := fe_8 fe
  obtain ⟨c1, c2⟩ := chk_iv cx ge
  have h7 := ge.2.2.2.1
  have e0 : stS X it (tD 29 i e ta tb) ys no j S = seC X ta tb S := rfl
  rw [e0] at hk cont hC' hF'
  have fd0 : 0 ≤ (fd (isVa (chk X tb 0 0 S).2.2.2 (xN X (lfI ta))) (vn (chk X tb 0 0 S).2.2.2)) := by
    refine Decidable.byContradiction fun w => ?_
    unfold seC at hk
    rw [if_pos h7, if_pos h4, if_neg w] at hk
    exact flT_bad (by decide) hk
  have e1 : seC X ta tb S = svS (chk X tb 0 0 S).2.2.2 (fd (isVa (chk X tb 0 0 S).2.2.2 (xN X (lfI ta))) (vn (chk X tb 0 0 S).2.2.2)) (chk X tb 0 0 S).1 (plT X tb) := by unfold seC; rw [if_pos h7, if_pos h4, if_pos fd0]
  rw [e1] at hk cont hC' hF'
  have ev : vn (chk X tb 0 0 S).2.2.2 = vn S := by unfold vn; rw [f3]
  have fdq : (fd (isVa (chk X tb 0 0 S).2.2.2 (xN X (lfI ta))) (vn (chk X tb 0 0 S).2.2.2)) = fd (isVa S (xN X (lfI ta))) (vn S) := by
    rw [ev]
    exact fd_eq (FN.eq f3 f4 f5) (vn S) (Nat.le_refl _)
  rcases fd_v (p := isVa S (xN X (lfI ta))) (vn S) with ⟨z1, _⟩ | ⟨u, u1, u2, z1⟩
  · rw [fdq, z1] at fd0; exact absurd fd0 (by decide)
  rw [fdq, z1] at r3 t3 kw hk cont hC' hF'
  obtain ⟨s, s1, s2⟩ := sl.2.2.1 u u1
  have s20 : s < 20 := by have := sl.1; omega
  have u20 : u < 20 := by have := sl.2.1; omega
  have q79 : tf (chk X tb 0 0 S).2.2.2 79 (nI u) = nI s := by unfold tf; rw [nc (by omega), f4]; exact s1
  have q80 : tf (chk X tb 0 0 S).2.2.2 80 (nI u) = S.1 80 u := by unfold tf; rw [nc (by omega), fe.1 80 (by unfold fE; omega)]
  unfold svS at hk cont hC' hF'
  rw [q79, q80] at hk cont hC' hF'
  rw [q79] at r3 t3
  rw [q80] at kw
  have hft : (ftS (chk X tb 0 0 S).2.2.2 (chk X tb 0 0 S).1 (S.1 80 u) (plT X tb)).1 7 0 = 0 := by
    refine Decidable.byContradiction fun w => ?_
    rw [if_neg (fun z => w z.1)] at hk
    exact w hk
  obtain ⟨mf, eft, _⟩ := ft_okT hft
  have s83 : (chk X tb 0 0 S).2.2.2.1 83 0 = 1 := by rw [f6]; exact r83
  rw [eft, if_pos ⟨h7, by rw [s83]; decide⟩] at hk cont hC' hF'
  have tvS := hC.2.2.2.2.2.2.2 u u1
  have tvx := hF.tv hC.1 tvS
  have fit := mf_fit cx.2.1 c1.1 ge.2.2.2.2 fe c1.2.1 c2 (tvS.up (fe_cn fe hC)) mf
  have n1' : ¬ (chk X tb 0 0 S).1 = -1 := fun w => fit_n1 cx.2.1 (by rw [← w]; exact fit)
  have l1 : n + 1 ≤ n2 := by have := r2.1; omega
  have l2 : m + 1 ≤ m2 := by have := t2.1; omega
  have fo : FO (chk X tb 0 0 S).2.2.2 (gvS (chk X tb 0 0 S).2.2.2 (nI s) (S.1 80 u) (chk X tb 0 0 S).1 1) := FO.gv
  have fv : FV S (gvS (chk X tb 0 0 S).2.2.2 (nI s) (S.1 80 u) (chk X tb 0 0 S).1 1) := (FV.fe fe).on (FV.fo fo)
  have g7 : (gvS (chk X tb 0 0 S).2.2.2 (nI s) (S.1 80 u) (chk X tb 0 0 S).1 1).1 77 0 = S.1 77 0 := by rw [fo.1 77 (by unfold fO; omega), f3]
  have fp : FP S (gvS (chk X tb 0 0 S).2.2.2 (nI s) (S.1 80 u) (chk X tb 0 0 S).1 1) := (FP.fe fe).on FP.gv
  have gr : (gvS (chk X tb 0 0 S).2.2.2 (nI s) (S.1 80 u) (chk X tb 0 0 S).1 1).1 83 0 = 1 := by rw [gv_83, s83]
  obtain ⟨_, g0, _, _, _, e86, _, _, g8, _⟩ := js.1.mg
  have fr : FR S (gvS (chk X tb 0 0 S).2.2.2 (nI s) (S.1 80 u) (chk X tb 0 0 S).1 1) := FR.of fv fp e86 g8
  have sl' := sl.fv fv g7 (Nat.le_refl _) sl.1
  have iv' := (js.fr fr g7).iv sl' hC' hF' cx.2.1
  have as : AsS Sf S (gvS (chk X tb 0 0 S).2.2.2 (nI s) (S.1 80 u) (chk X tb 0 0 S).1 1) hs u s (slV Sf (gvS (chk X tb 0 0 S).2.2.2 (nI s) (S.1 80 u) (chk X tb 0 0 S).1 1) u) (S.1 80 u) (chk X tb 0 0 S).1 := by
    have ev' : vn (gvS (chk X tb 0 0 S).2.2.2 (nI s) (S.1 80 u) (chk X tb 0 0 S).1 1) = vn S := by unfold vn; rw [g7]
    refine as_mk fv (by omega) sl' (by rw [fp 75 (by omega)]) (by rw [fp 76 (by omega)]) (by rw [fp 87 (by omega)]) (fv.2.2.2.2.2.1 u u1).2.1 (by rw [(fv.2.2.2.2.2.1 u u1).1]; exact s1) s20 tvx fit (fun w s' hw hne h79 s'20 => ?_) (fun hfi _ => ?_) (fun h hm => ?_)
    · obtain ⟨b1, _⟩ := fv.2.2.2.2.2.1 w (by omega)
      rw [b1] at h79
      have ne : ¬ s' = s := fun z => hne (sl.2.2.2 w u (by omega) u1 (by rw [h79, s1, z]))
      obtain ⟨g1, _⟩ := gv_bit (S := (chk X tb 0 0 S).2.2.2) (e := s) (s := s') (t1 := S.1 80 u) (y := (chk X tb 0 0 S).1) (has := 1) (by omega) (by omega)
      obtain ⟨g1, g2⟩ := g1 ne
      rw [g1, g2, f1, f2]
      exact ⟨by omega, fun w => w, fun w => w⟩
    · obtain ⟨_, _, k3, k4⟩ := gv_kn (by omega) hfi
      exact kn_rw c1 ge.2.2.2.2 cx.2.1 c2 k3 k4
    · obtain ⟨_, _, _, _, _, _, _, hv, _⟩ := js
      obtain ⟨p1, p2⟩ := hv h hm
      refine ⟨by omega, fun w hw => ?_, fun hu => ?_⟩
      · obtain ⟨b1, b2, _⟩ := fv.2.2.2.2.2.1 w (by omega)
        rw [b1, b2]
        exact ⟨(p2 w hw).1, (p2 w hw).2.1⟩
      · refine kv h hm u s hu ?_ (by rw [(p2 u hu).1]; exact s1)
        have fn : FN h.2.2 S := ⟨p1, fun w hw => ⟨(p2 w hw).1.symm, (p2 w hw).2.2.symm⟩⟩
        have : AsR X (tD 29 i e ta tb) S u := ⟨(xN X (lfI ta)), by rw [asN_n]; unfold asM; rw [if_neg (by omega), if_neg (by omega), if_neg (by omega), if_pos rfl]; exact ⟨h4, rfl⟩, z1⟩
        exact this.fv fn hu (by have := sl.2.1; omega)
  have slq : slF (chk X tb 0 0 S).2.2.2 (nI s) = nI (slV Sf (gvS (chk X tb 0 0 S).2.2.2 (nI s) (S.1 80 u) (chk X tb 0 0 S).1 1) u) := by
    have js1 := js.fr (FR.of (FV.fe fe) (FP.fe fe) e86 g8) f3
    have vw := vw_of js1.2.1 (sl.fv (FV.fe fe) f3 (Nat.le_refl _) sl.1) c1 ge.2.2.2.2 cx.2.1
    rw [slF_u vw (u := u) (by omega) (by rw [f4]; exact s1), slV_fv (FV.fe fe) u (by omega), slV_fv fv u (by omega)]
  rw [slq, wd_w kw, if_neg (tV_n1 tvx (by have := cx.2.1; omega))] at t3
  refine gd_stp iv (by omega) (by omega) (ps.le (by omega) (by omega)) r1 t1' ?_
  refine gd_xp cx hj ge hx hdd r2 t2 iv (by show 0 ≤ 12; omega) (by show 0 ≤ 3; omega) (by omega) (by omega) (fun h hh => by have := ps h hh; omega) (fun ivx => ?_)
  unfold psh at ivx ⊢
  rw [if_neg n1'] at ivx ⊢
  exact gd_ru ivx (by omega) (by omega) (ps.le (by omega) (by omega)) (fun j hj => Or.inr (Or.inr (Or.inr (Or.inr (Or.inr (Or.inr (Or.inr (Or.inr (Or.inr (Or.inl ⟨u, s, _, S.1 80 u, _, 0, 0, _, r3, t3, rfl, as, js.2.1 u u1, iv', (cont gr).le (by omega)⟩))))))))))
end SUL
