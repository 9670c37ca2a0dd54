/-! places of the code: VARS */
-/
section SUN
variable {v0 n0 : Nat} {M0 T0 S S' S1 S2 Sf : gSt} {X : Lx} {it e v g n n' n2 m m' m2 k i q c en j a b v' g' dd dd' u s n1 B L p : Nat} {t ta tb : Tr} {x y r w ys no b0 t1 : Int32} {st st' s0 : List Int32} {hs : List HD} {jj : T5} {ks js : List T5}
theorem JS.va (h : JS Sf it dd S hs) (fv : FV S S') (fp : FP S S') (hv : vn S' = vn S + 1) (ht : TyIn Sf S (S'.1 80 (vn S))) : JS Sf it dd S' hs := by
  obtain ⟨j1, j2, ⟨c, j3, j4⟩, j5, j6, j7, j8, j9, j10⟩ := h
  obtain ⟨_, g0, _, _, _, e86, _, _, g8, _⟩ := j1.mg
  have fr : FR S S' := FR.of fv fp e86 g8
  have ea : arn S' = arn S := by unfold arn; rw [fv.2.2.1]
  refine ⟨j1.fr fr, fun u hu => ?_, ⟨c, by rw [fp 87 (by omega)]; exact j3, j4⟩, j5, ?_, j7, j8.fr fr, fun h hh => ?_, j10⟩
  · by_cases c : u = vn S
    · rw [c]; exact ht.fv fv
    · rw [(fv.2.2.2.2.2.1 u (by omega)).2.1]
      exact (j2 u (by omega)).fv fv
  · rw [ea, trc_ee fv.2.2.2.1 _ (Nat.le_refl _)]; exact j6
  · obtain ⟨a1, a2⟩ := j9 h hh
    refine ⟨by omega, fun u hu => ?_⟩
    obtain ⟨b1, b2, b3⟩ := a2 u hu
    obtain ⟨c1, c2, c3⟩ := fv.2.2.2.2.2.1 u (by omega)
    exact ⟨b1.trans c1.symm, b2.trans c2.symm, b3.trans c3.symm⟩
theorem va_fs1 : FE S (vaM X S i).2 := (FE.wr (by omega) : FE S (sI S 92 0 (S.1 92 0 + 1))).tr (FE.me _ _ _)
theorem va_ty (cx : CxP M0 T0 Sf) (hC : Ck S) (hty : tyW X 6 (i + 3)) (hv : SlB S e) (he : e < 20) (hk : (stS X it (tD 20 i e ta tb) ys no j S).1 7 0 = 0) (hF : FW (stS X it (tD 20 i e ta tb) ys no j S) Sf) : TyIn Sf S (vaM X S i).1 ∧ tV (vaM X S i).2 (vaM X S i).1 ∧ Ck (vaM X S i).2 ∧ FW (vaM X S i).2 Sf ∧ (vaM X S i).2.1 7 0 = 0 := by
  obtain ⟨T1, ty, fe, z1, z2, ety, eT, e0⟩ := va_ok hv he hk
  have fE1 : FE (vaM X S i).2 T1 := by
    rw [eT]
    unfold vaF vaR
    split
    · exact FE.rf
    · exact (chk_fe ta 0 0 _).tr FE.ft
  have fS : FS T1 (stS X it (tD 20 i e ta tb) ys no j S) := by
    rw [e0]
    split
    · exact FS.see
    · exact FS.see.tr FS.gv
  have fW1 : FW (vaM X S i).2 Sf := (fE1.fw.tr (fS.fw.tr hF))
  have f7 : (vaM X S i).2.1 7 0 = 0 := fE1.ok z1
  have c0 : FE S (sI S 92 0 (S.1 92 0 + 1)) := FE.wr (by omega)
  have ck0 : Ckm (sI S 92 0 (S.1 92 0 + 1)) := hC.toM.st c0 (hC.2.1.wr (by omega) (by omega))
  have g1 : Tg (vaM X S i).2 := va_fs1.tg hC.1
  have c6 : cn (vaM X S i).2 < 6000 := fW1.lt g1 cx.2.1
  have mi := me_in (X := X) cx.1 cx.2.1 6 (sI S 92 0 (S.1 92 0 + 1)) (i + 3) hty ck0 f7 fW1
  have mo := me_ok 6 (sI S 92 0 (S.1 92 0 + 1)) (i + 3) hty ck0 c6
  refine ⟨fun ρ ρ' hρ => mi ρ ρ' (fun c hc => hρ c ((sght_fe c0).mp hc)), (mo.2 f7).1, ?_, fW1, f7⟩
  exact hC.st va_fs1 mo.1.2.1 c6
theorem va_js (cx : CxP M0 T0 Sf) (hC : Ck S) (hty : tyW X 6 (i + 3)) (hv : SlB S e) (he : e < 20) (hk : (stS X it (tD 20 i e ta tb) ys no j S).1 7 0 = 0) (hF : FW (stS X it (tD 20 i e ta tb) ys no j S) Sf) (h : JS Sf it dd S hs) : JS Sf it dd (stS X it (tD 20 i e ta tb) ys no j S) hs := by
  have h20 : vn S < 100 := by have := hv.2.1; omega
  obtain ⟨_, _, q1, q2, q3⟩ := va_sl (P := fun _ => True) hv he hk
  have fv : FV S (stS X it (tD 20 i e ta tb) ys no j S) := fv_st (X := X) (it := it) (k := 20) (i := i) (e' := e) (ta := ta) (tb := tb) (x := ys) (op := no) (S := S) (Or.inl rfl) h20
  have fp : FP S (stS X it (tD 20 i e ta tb) ys no j S) := fp_st (X := X) (it := it) (k := 20) (i := i) (e' := e) (ta := ta) (tb := tb) (x := ys) (op := no) (S := S) (Or.inl rfl)
  refine h.va fv fp q1 ?_
  rw [q3]
  exact (va_ty cx hC hty hv he hk hF).1
theorem gd_20 (cx : CxP M0 T0 Sf) (pl : PlH T0 Sf it n1 dd e S hs n' m') (hC : Ck S) (hF : FW S Sf) (hty : tyW X 6 (i + 3)) (he : e < 20) (hC' : Ck (stS X it (tD 20 i e ta tb) ys no j S)) (hF' : FW (stS X it (tD 20 i e ta tb) ys no j S) Sf) (ge : isZ ta = true ∨ GE X Sf ta (vaM X S i).2) (hx : isZ ta = true ∨ (XG X ta (19 - dd) 1 ∧ dd ≤ 19)) (hR : rwC4 M0 n = (0, nI p, 0, 0) ∧ (if isZ ta = true then n' = n + 1 else ∃ n2, ExC M0 (vaR X ta (vaM X S i).2).2.2.1 (n + 1) n2 ∧ rwC4 M0 n2 = (22, nI e, 0, 0) ∧ n' = n2 + 1)) (hT : cw3 T0 m = (1, nI p, 0) ∧ (if isZ ta = true then m' = m + 1 else ∃ m2, KxC (eN Sf it) Sf T0 (vaM X S i).2 (vaR X ta (vaM X S i).2).2.2.1 (m + 1) m2 ∧ KwO (eN Sf it) Sf T0 S 4 (nI (slW S (vn S))) (vaM X S i).1 m2 ∧ m' = m2 + 1)) (hk : (stS X it (tD 20 i e ta tb) ys no j S).1 7 0 = 0) (cont : (stS X it (tD 20 i e ta tb) ys no j S).1 83 0 = 1 → Gdk M0 T0 Sf n1 it k n' m' (stS X it (tD 20 i e ta tb) ys no j S) [] hs) : Gdk M0 T0 Sf n1 it k n m S [] hs := by
  have iv := pl.iv hC hF cx.2.1
  obtain ⟨js, sl, hdd, r83, hj, ln, lm, ps⟩ := pl
  obtain ⟨r1, hR⟩ := hR
  obtain ⟨t1', hT⟩ := hT
  have h20 : vn S < 100 := by have := sl.2.1; omega
  have fv : FV S (stS X it (tD 20 i e ta tb) ys no j S) := fv_st (X := X) (it := it) (k := 20) (i := i) (e' := e) (ta := ta) (tb := tb) (x := ys) (op := no) (S := S) (Or.inl rfl) h20
  have fp : FP S (stS X it (tD 20 i e ta tb) ys no j S) := fp_st (X := X) (it := it) (k := 20) (i := i) (e' := e) (ta := ta) (tb := tb) (x := ys) (op := no) (S := S) (Or.inl rfl)
  obtain ⟨sl', kn, vn', o79, o80⟩ := va_sl (P := fun _ => False) sl he hk
  obtain ⟨tyI, tvS1, ckS1, fW1, f7⟩ := va_ty cx hC hty sl he hk hF'
  have js' := va_js cx hC hty sl he hk hF' js
  have iv' := js'.iv sl' hC' hF' cx.2.1
  have er : rn (stS X it (tD 20 i e ta tb) ys no j S) = rn S := by unfold rn; rw [fv.1]
  have smR : SmR S (stS X it (tD 20 i e ta tb) ys no j S) := ⟨er, fv.2.1, fv.2.2.1, fv.2.2.2.1, by rw [fp 75 (by omega)], by rw [fp 76 (by omega)], by rw [fp 87 (by omega)]⟩
  obtain ⟨T1, ty, fe, z1, z2, ety, eT, e0⟩ := va_ok sl he hk
  obtain ⟨f1, f2, f3, f4, f5, f6⟩ := fe_8 fe
  have s83 : (seS T1 (xN X (i + 1)) (nI e) ty).1 83 0 = 1 := by rw [see_o (by omega) (by omega) (by omega), f6]; exact r83
  rw [if_neg (by rw [s83]; decide)] at e0
  have k83 : (stS X it (tD 20 i e ta tb) ys no j S).1 83 0 = 1 := by rw [e0, gv_83]; exact s83
  have cont := cont k83
  have s81 : (seS T1 (xN X (i + 1)) (nI e) ty).1 81 0 = S.1 81 0 := by rw [see_o (by omega) (by omega) (by omega), f1]
  have s82 : (seS T1 (xN X (i + 1)) (nI e) ty).1 82 0 = S.1 82 0 := by rw [see_o (by omega) (by omega) (by omega), f2]
  -- VARS that were there
  have old : ∀ w s', w < vn S → S.1 79 w = nI s' → s' < 20 → (fi ((stS X it (tD 20 i e ta tb) ys no j S).1 81 0) s' = true → fi (S.1 81 0) s' = true) ∧ (fi ((stS X it (tD 20 i e ta tb) ys no j S).1 82 0) s' = true → fi (S.1 82 0) s' = true) := fun w s' hw h79 hs' => by
    obtain ⟨s'', q1, q2⟩ := sl.2.2.1 w hw
    have es : s'' = s' := nI_inj (by omega) (by omega) (by rw [← q1, h79])
    have hg := gv_bit (S := seS T1 (xN X (i + 1)) (nI e) ty) (e := e) (s := s') (t1 := ty) (y := (vaR X ta (vaM X S i).2).1) (has := (if isZ ta = true then 0 else 1)) (by omega) (by omega)
    obtain ⟨g1, g2⟩ := hg.1 (by omega)
    rw [e0, g1, g2, s81, s82]
    exact ⟨fun w => w, fun w => w⟩
  by_cases z : isZ ta = true
  · rw [if_pos z] at hR hT
    subst hR hT
    refine gd_stp iv (by omega) (by omega) (ps.le (by omega) (by omega)) r1 t1' ?_
    refine cont.wk ⟨smR, fun w s' ⟨a1, a2, a3, a4, a5⟩ => ?_⟩
    by_cases c : w = vn S
    · exfalso
      rw [c, o79] at a2
      have es : e = s' := nI_inj (by omega) (by omega) a2
      rw [← es, e0, if_pos z] at a4
      unfold gvS at a4
      rw [sI_ne (by omega), sI_v, if_pos rfl, fi_of (by omega) (by omega), if_pos rfl] at a4
      cases a4
    · obtain ⟨b1, b2, b3⟩ := fv.2.2.2.2.2.1 w (by omega)
      rw [b1] at a2
      obtain ⟨o1, o2⟩ := old w s' (by omega) a2 a3
      exact ⟨⟨by omega, a2, a3, o1 a4, a5⟩, b2.symm, (slV_fv fv w (by omega)).symm, o2⟩
  · rw [if_neg z] at hR hT
    have z' : isZ ta = false := by cases hz : isZ ta with | true => exact absurd hz z | false => rfl
    obtain ⟨n2, r2, r3, rfl⟩ := hR
    obtain ⟨m2, t2, ⟨cc, kw, t3⟩, rfl⟩ := hT
    have ge := ge.resolve_left z
    have hx := hx.resolve_left z
    have eR : vaR X ta (vaM X S i).2 = (chk X ta 0 0 (vaM X S i).2) := by unfold vaR; rw [if_neg z]
    rw [eR] at r2 t2 e0
    have feA : FE S (vaM X S i).2 := va_fs1
    obtain ⟨p1, p2, p3, p4, p5, p6⟩ := fe_8 feA
    obtain ⟨c1, c2⟩ := chk_iv cx ge
    have eT' : T1 = ftS (chk X ta 0 0 (vaM X S i).2).2.2.2 (chk X ta 0 0 (vaM X S i).2).1 (vaM X S i).1 (plT X ta) := by rw [eT]; unfold vaF; rw [if_neg z, eR]
    rw [eT'] at z1
    obtain ⟨mf, eft, _⟩ := ft_okT z1
    rw [eft] at eT'
    have fe2 := chk_fe (X := X) ta 0 0 (vaM X S i).2
    have fit := mf_fit cx.2.1 c1.1 ge.2.2.2.2 fe2 c1.2.1 c2 (tvS1.up (fe_cn fe2 ckS1)) mf
    have tvx := fW1.tv ckS1.1 tvS1
    have n1' : ¬ (chk X ta 0 0 (vaM X S i).2).1 = -1 := fun w => fit_n1 cx.2.1 (by rw [← w]; exact fit)
    obtain ⟨_, g0, _, _, _, e86, _, _, g8, _⟩ := js.1.mg
    have fr1 : FR S (vaM X S i).2 := FR.of (FV.fe feA) (FP.fe feA) e86 g8
    have js1 := js.fr fr1 p3
    have sl1 := sl.fv (FV.fe feA) p3 (Nat.le_refl _) sl.1
    have iv1 := js1.iv sl1 ckS1 fW1 cx.2.1
    have hj1 : Sf.2 16 = (vaM X S i).2.2 16 ∧ Sf.2 32 = (vaM X S i).2.2 32 := by rw [feA.2.1]; exact hj
    have l1 : n + 1 ≤ n2 := by have := r2.1; omega
    have l2 : m + 1 ≤ m2 := by have := t2.1; omega
    have vS1 : vn (vaM X S i).2 = vn S := by unfold vn; rw [p3]
    have fvS : FV (vaM X S i).2 (stS X it (tD 20 i e ta tb) ys no j S) := by
      have e2 : FE (vaM X S i).2 T1 := by rw [eT']; exact fe2
      rw [e0]
      exact (FV.fe e2).on ((FV.see (by rw [show vn T1 = vn S by unfold vn; rw [f3]]; omega)).on (FV.fo FO.gv))
    have slq : nI (slW S (vn S)) = nI (slV Sf (stS X it (tD 20 i e ta tb) ys no j S) (vn S)) := by rw [sl_fw hC hF cx.2.1 (vn S) (Nat.le_refl _), slV_fv fv (vn S) (Nat.le_refl _)]
    have as : AsS Sf (vaM X S i).2 (stS X it (tD 20 i e ta tb) ys no j S) hs (vn S) e (slV Sf (stS X it (tD 20 i e ta tb) ys no j S) (vn S)) (vaM X S i).1 (chk X ta 0 0 (vaM X S i).2).1 := by
      refine as_mk fvS (by omega) sl' (by rw [fp 75 (by omega), feA.1 75 (by unfold fE; omega)]) (by rw [fp 76 (by omega), feA.1 76 (by unfold fE; omega)]) (by rw [fp 87 (by omega), feA.1 87 (by unfold fE; omega)]) o80 o79 he tvx fit (fun w s' hw hne h79 hs' => ?_) (fun hfi _ => ?_) (fun h hm => ?_)
      · have hw' : w < vn S := by omega
        rw [(fv.2.2.2.2.2.1 w hw').1] at h79
        obtain ⟨o1, o2⟩ := old w s' hw' h79 hs'
        rw [p1, p2]
        exact ⟨by omega, o1, o2⟩
      · rw [e0, if_neg z] at hfi
        obtain ⟨_, _, k3, k4⟩ := gv_kn (by omega) hfi
        have t66 : tf (seS T1 (xN X (i + 1)) (nI e) ty) 66 (chk X ta 0 0 (vaM X S i).2).1 = tf (chk X ta 0 0 (vaM X S i).2).2.2.2 66 (chk X ta 0 0 (vaM X S i).2).1 := by unfold tf; rw [see_o (by omega) (by omega) (by omega), eT']
        rw [t66] at k4
        exact kn_rw c1 ge.2.2.2.2 cx.2.1 c2 k3 k4
      · obtain ⟨_, _, _, _, _, _, _, hv, _⟩ := js
        obtain ⟨q1, q2⟩ := hv h hm
        refine ⟨by omega, fun w hw => ?_, fun hu => absurd hu (by omega)⟩
        obtain ⟨b1, b2, _⟩ := fv.2.2.2.2.2.1 w (by omega)
        rw [b1, b2]
        exact ⟨(q2 w hw).1, (q2 w hw).2.1⟩
    rw [slq, wd_w kw, if_neg (tV_n1 tvx (by have := cx.2.1; omega))] at t3
    refine gd_stp iv (by omega) (by omega) (ps.le (by omega) (by omega)) r1 t1' ?_
    refine Gdk.wk ?_ (wk_fe feA)
    refine gd_xp cx hj1 ge hx hdd r2 t2 iv1 (by show 0 ≤ 12; omega) (by show 0 ≤ 3; omega) (by omega) (by omega) (fun h hh => by have := ps h hh; omega) (fun ivx => ?_)
    unfold psh at ivx ⊢
    rw [if_neg n1'] at ivx ⊢
    exact gd_ru ivx (by omega) (by omega) (ps.le (by omega) (by omega)) (fun j hj => Or.inr (Or.inr (Or.inr (Or.inr (Or.inr (Or.inr (Or.inr (Or.inr (Or.inr (Or.inl ⟨vn S, e, _, (vaM X S i).1, _, 0, 0, _, r3, t3, rfl, as, tyI.fv (FV.fe feA), iv', cont.le (by omega)⟩))))))))))
end SUN
