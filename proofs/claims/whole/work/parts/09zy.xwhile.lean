/-! while: checkWhile 80 -/
section XL
variable {nf d fl : Nat} {T T' T1 S : gSt} {X : Lx} {k i e it lo hi a b v g v' g' v1 g1 n s p m c c1 j : Nat} {x ys no x2 : Int32} {ta tb sa sb t : Tr}
theorem er_gvA : ∀ (t : Tr) (acc : Int32), gvA X t (er T) acc = gvA X t T acc := by
  intro t
  induction t using Tr_ind with
  | hz t hz =>
    intro acc
    unfold gvA
    split
    · exact absurd rfl (hz _ _ _ _ _)
    · rfl
  | h k i e ta tb ihA ihB =>
    intro acc
    rw [gvA_n, gvA_n]
    unfold gvN
    rw [ihA, ihB, ihB, ihB, ihA]
    rfl
theorem wh_end {st kw lv rc : Int32} (hr : rc = 0 ∨ rc = 1) : rj_Model_checkWhile_144 (RR nf (d + 1)) nf T no st kw lv rc = some (0, 0, kwS (rsS T st kw lv rc) no) := by
  unfold rj_Model_checkWhile_144
  show gd (rc = 0 ∨ rc = 1) (bi (RR nf (d + 1) 75 (rsS T st kw lv rc) [no] []) fun _ _ T30 => some (0, 0, T30)) = _
  rw [gd, if_pos hr, x_know, bis]
theorem x_wh28 (hx : PI X) (hX : xn X ≤ 4000) (hnf : 8300 ≤ nf) (hE : CkE nf X ta) (hB : CkB nf X it tb) (hlc : lo < c) (hch : c ≤ hi) (hhi : hi ≤ 8200) (h51 : T.1 51 lo = nI (xP X i)) (hR1 : RepM X T ta (lo + 1) c (T.1 52 lo)) (hR2 : RepS X T tb c c hi (T.1 53 lo)) (hai : a = i) (wa : Wf X ta false (a + 1) c1 ∧ dpT ta ≤ 40) (wb : Ws X tb 2 c1 b v g v' g') (hbx : b ≤ xn X) (hP : Pre it T n v g s) (hN : n + bdT tb ≤ 41) (hs : s + (hi - lo) ≤ 8200) (hd : 3 * bdT tb + 300 ≤ d) (hdd : 300 ≤ d) (hc : cn (if (cdC X ta (er T)).1 7 0 = 0 then kwS (rsS (if (stS X it tb 0 0 0 (kwS (cdC X ta (er T)) (akY X ta (cdC X ta (er T))))).1 7 0 = 0 ∧ ¬ (stS X it tb 0 0 0 (kwS (cdC X ta (er T)) (akY X ta (cdC X ta (er T))))).1 83 0 = 0 ∧ ¬ (stS X it tb 0 0 0 (kwS (cdC X ta (er T)) (akY X ta (cdC X ta (er T))))).1 75 0 = (cdC X ta (er T)).1 75 0 then flT (stS X it tb 0 0 0 (kwS (cdC X ta (er T)) (akY X ta (cdC X ta (er T))))) 8 (nI (xP X i)) else stS X it tb 0 0 0 (kwS (cdC X ta (er T)) (akY X ta (cdC X ta (er T))))) ((cdC X ta (er T)).1 81 0) ((cdC X ta (er T)).1 82 0) ((cdC X ta (er T)).1 75 0) ((cdC X ta (er T)).1 83 0)) (akN X ta (cdC X ta (er T))) else cdC X ta (er T)) < 6000) : wp (rj_Model_checkWhile_28 (RR nf d) nf T (nI lo)) (fun _ _ T' => er T' = (if (cdC X ta (er T)).1 7 0 = 0 then kwS (rsS (if (stS X it tb 0 0 0 (kwS (cdC X ta (er T)) (akY X ta (cdC X ta (er T))))).1 7 0 = 0 ∧ ¬ (stS X it tb 0 0 0 (kwS (cdC X ta (er T)) (akY X ta (cdC X ta (er T))))).1 83 0 = 0 ∧ ¬ (stS X it tb 0 0 0 (kwS (cdC X ta (er T)) (akY X ta (cdC X ta (er T))))).1 75 0 = (cdC X ta (er T)).1 75 0 then flT (stS X it tb 0 0 0 (kwS (cdC X ta (er T)) (akY X ta (cdC X ta (er T))))) 8 (nI (xP X i)) else stS X it tb 0 0 0 (kwS (cdC X ta (er T)) (akY X ta (cdC X ta (er T))))) ((cdC X ta (er T)).1 81 0) ((cdC X ta (er T)).1 82 0) ((cdC X ta (er T)).1 75 0) ((cdC X ta (er T)).1 83 0)) (akN X ta (cdC X ta (er T))) else cdC X ta (er T)) ∧ Fm X T T' lo hi a b ∧ (T'.1 7 0 = 0 → AnE X T' ta (lo + 1) c (T.1 52 lo) (chk X ta 0 0 (er T)).1 (chk X ta 0 0 (er T)).2.1 (chk X ta 0 0 (er T)).2.2.1 ∧ AnS X it T' tb c c hi (T.1 53 lo) 0 0 (kwS (cdC X ta (er T)) (akY X ta (cdC X ta (er T)))))) := by
  obtain ⟨d', rfl⟩ : ∃ z, d = z + 2 := ⟨d - 2, by omega⟩
  have zm : inb (nI lo) 8200 := nin (by omega) (by omega)
  have cm : (nI lo).toNatClampNeg = lo := nc (by omega)
  have hC := hP.1.1
  have mo := Ws_mo _ _ _ _ _ _ _ _ wb
  have le1 := Wf_le2 wa.1
  have cC : cn (cdC X ta (er T)) < 6000 := by
    refine FS.lt (T' := _) ?_ ((FS.cd (X := X) (ta := ta)).tg hC.1) hc
    exact FS.if2 ((((FS.kw).tr (st_fs (X := X) (it := it) tb _ _ _ _)).tr (FS.if2 (FS.fe (FE.fl (by decide))) FS.rf)).tr (FS.rs.tr FS.kw)) FS.rf
  unfold rj_Model_checkWhile_28
  refine wp_gd zm ?_
  rw [cm]
  refine wp_bi (x_cd hX hE hR1 (by omega) wa.1 (by omega) hC hP.2.1 (by omega) (by omega) hP.2.2.1 cC) ?_
  intro r l C h1
  have spC : SP T C := SP.of (by rw [h1.1]; exact (chk_fe (X := X) ta 0 0 (er T)).tr FE_cn)
  have swC := spC.toW
  have fmC : Fm X T C lo hi a b := h1.2.1.up (by omega) (by omega) (by omega) (by omega)
  have sC := si_cd (X := X) wa.1 (by omega) hP.1 cC
  rw [← h1.1] at sC hc cC ⊢
  by_cases c0 : C.1 7 0 = 0
  · have c0' : (er C).1 7 0 = 0 := c0
    rw [if_pos c0', er_akY, er_akN] at hc ⊢
    have cnC : cn C < 6000 := cC
    have k52 : C.1 52 lo = T.1 52 lo := by rw [swC.1 52 (by omega) (by omega) rfl]
    refine wp_be (x_bd0 c0) (wp_t rfl (wp_gd zm ?_))
    rw [k52]
    refine wp_be (x_askY2 swC sC.1.1 cnC (by omega) hR1 (by omega) wa.1) (wp_gd zm ?_)
    rw [k52]
    refine wp_be (x_askN2 swC sC.1.1 cnC (by omega) ta _ _ _ _ _ hR1 (by omega) wa.1) (wp_v (wp_v (wp_v (wp_v (wp_be x_know (wp_gd zm ?_))))))
    have e8x : (er C).1 81 0 = C.1 81 0 ∧ (er C).1 82 0 = C.1 82 0 ∧ (er C).1 75 0 = C.1 75 0 ∧ (er C).1 83 0 = C.1 83 0 := ⟨rfl, rfl, rfl, rfl⟩
    rw [e8x.1, e8x.2.1, e8x.2.2.1, e8x.2.2.2] at hc ⊢
    have h83 : C.1 83 0 = 0 ∨ C.1 83 0 = 1 := sC.1.2.2.1
    have nK : Nw C (kwS C (akY X ta C)) := Nw.fo FO.kw
    have eK : er (kwS C (akY X ta C)) = kwS (er C) (akY X ta C) := er_kw
    have zK : (kwS C (akY X ta C)).1 7 0 = 0 := by rw [kw_7]; exact c0
    have sK : SK (er C) (er (kwS C (akY X ta C))) v g n := by
      rw [eK]
      exact sC.1.fo FO.kw (by rw [kw_83]; exact sC.1.2.2.1)
    rw [← eK] at hc ⊢
    generalize kwS C (akY X ta C) = K at *
    have swK : SPw T K := swC.tr nK.1
    have fmK : Fm X T K lo hi a b := fmC.trw nK.fm swC
    have hPK : Pre it K n v g s := hP.st fmK swK sK.1 zK
    have hRK : RepS X K tb c c hi (T.1 53 lo) := hR2.sw swK (fun q h2 h3 => by rw [nK.2 61 rfl, (h1.2.1.1 q (by omega)).2])
    rw [swK.1 53 (by omega) (by omega) rfl]
    have fB := st_fs (X := X) (it := it) tb 0 0 0 (er K)
    have gB := fB.tg sK.1.1.1
    have cB : cn (stS X it tb 0 0 0 (er K)) < 6000 := by
      refine FS.lt (T' := _) ?_ gB hc
      exact (FS.if2 (FS.fe (FE.fl (by decide))) FS.rf).tr (FS.rs.tr FS.kw)
    refine wp_bi (hB K (d' + 2) c hi c1 b v g v' g' n s (T.1 53 lo) hRK hhi wb hbx hPK hN (by omega) hd cB) ?_
    intro r l U hQ
    rw [← hQ.1] at hc ⊢
    have swU : SPw T U := swK.tr hQ.sw
    have fmU : Fm X T U lo hi a b := fmK.trw (hQ.2.1.up (by omega) (by omega) (by omega) (by omega)) swK
    -- the end
    have fin : ∀ V : gSt, V = (if U.1 7 0 = 0 ∧ ¬ U.1 83 0 = 0 ∧ ¬ U.1 75 0 = C.1 75 0 then flT U 8 (nI (xP X i)) else U) → wp (rj_Model_checkWhile_144 (RR nf (d' + 2)) nf V (akN X ta C) (C.1 81 0) (C.1 82 0) (C.1 75 0) (C.1 83 0)) (fun _ _ T' => er T' = kwS (rsS (if (er U).1 7 0 = 0 ∧ ¬ (er U).1 83 0 = 0 ∧ ¬ (er U).1 75 0 = C.1 75 0 then flT (er U) 8 (nI (xP X i)) else er U) (C.1 81 0) (C.1 82 0) (C.1 75 0) (C.1 83 0)) (akN X ta C) ∧ Fm X T T' lo hi a b ∧ (T'.1 7 0 = 0 → AnE X T' ta (lo + 1) c (T.1 52 lo) (chk X ta 0 0 (er T)).1 (chk X ta 0 0 (er T)).2.1 (chk X ta 0 0 (er T)).2.2.1 ∧ AnS X it T' tb c c hi (T.1 53 lo) 0 0 (er K))) := by
      intro V eV
      rw [wh_end h83]
      have foV : FO U V := by rw [eV]; exact FO.if2 FO.fl FO.rf
      have eE : er V = (if (er U).1 7 0 = 0 ∧ ¬ (er U).1 83 0 = 0 ∧ ¬ (er U).1 75 0 = C.1 75 0 then flT (er U) 8 (nI (xP X i)) else er U) := by
        rw [eV]
        by_cases q : U.1 7 0 = 0 ∧ ¬ U.1 83 0 = 0 ∧ ¬ U.1 75 0 = C.1 75 0
        · have q' : (er U).1 7 0 = 0 ∧ ¬ (er U).1 83 0 = 0 ∧ ¬ (er U).1 75 0 = C.1 75 0 := q
          rw [if_pos q, if_pos q', er_fl]
        · have q' : ¬ ((er U).1 7 0 = 0 ∧ ¬ (er U).1 83 0 = 0 ∧ ¬ (er U).1 75 0 = C.1 75 0) := q
          rw [if_neg q, if_neg q']
      have nE : Nw U (kwS (rsS V (C.1 81 0) (C.1 82 0) (C.1 75 0) (C.1 83 0)) (akN X ta C)) := Nw.fo (foV.tr rs_fo)
      refine wp_some ⟨by rw [er_kw, er_rs, eE], fmU.trw nE.fm swU, fun q => ?_⟩
      have q1 : V.1 7 0 = 0 := by
        rw [kw_7, rs_7] at q
        exact q
      have q2 : U.1 7 0 = 0 := by
        rw [eV] at q1
        by_cases z : U.1 7 0 = 0 ∧ ¬ U.1 83 0 = 0 ∧ ¬ U.1 75 0 = C.1 75 0
        · exact z.1
        · rw [if_neg z] at q1; exact q1
      refine ⟨?_, AnS.kp tb _ _ _ _ _ _ _ _ _ _ _ _ _ _ wb hbx nE.kp (hQ.2.2 q2)⟩
      exact AnE.kp (b := c1) (by omega) ta false _ c1 (lo + 1) c _ _ _ _ (Nat.le_refl _) wa.1 ((nK.kp.tr (Kp.fmw hx hQ.sw hQ.2.1 (by omega) (by omega) (by omega) (by omega))).tr nE.kp) (h1.2.2 c0)
    by_cases d0 : U.1 7 0 = 0
    · refine wp_be (x_bd0 d0) (wp_t rfl ?_)
      by_cases d1 : U.1 83 0 = 0
      · exact wp_t d1 (fin U (by rw [if_neg (fun q => q.2.1 d1)]))
      · refine wp_f d1 ?_
        by_cases d2 : U.1 75 0 = C.1 75 0
        · exact wp_t d2 (fin U (by rw [if_neg (fun q => q.2.2 d2)]))
        · refine wp_f d2 (wp_gd zm (wp_be x_fail ?_))
          rw [swU.1 51 (by omega) (by omega) rfl, h51]
          exact fin _ (by rw [if_pos ⟨d0, d1, d2⟩])
    · refine wp_be (x_bd1 d0) (wp_f (by decide) ?_)
      exact fin U (by rw [if_neg (fun q => d0 q.1)])
  · have c0' : ¬ (er C).1 7 0 = 0 := c0
    rw [if_neg c0'] at hc ⊢
    exact wp_be (x_bd1 c0) (wp_f (by decide) (wp_some ⟨rfl, fmC, fun q => absurd q c0⟩))
theorem t_22 (hx : PI X) (hX : xn X ≤ 4000) (hnf : 8300 ≤ nf) (hE : CkE nf X ta) (hB : CkB nf X it tb) : CkT nf X it (tD 22 i e ta tb) := by
  intro T d lo hi a b v g v' g' n s x hR hhi hw hbx hP hN hs hd hc
  obtain ⟨d', rfl⟩ : ∃ z, d = z + 2 := ⟨d - 2, by omega⟩
  rw [Ws_n] at hw
  obtain ⟨w1, c1, w2, w3⟩ : i = a ∧ ∃ c, (Wf X ta false (a + 1) c ∧ dpT ta ≤ 40) ∧ Ws X tb 2 c b v g v' g' := hw
  have mo3 := Ws_mo _ _ _ _ _ _ _ _ w3
  have le2 := Wf_le2 w2.1
  rw [RepS_n] at hR
  obtain ⟨rfl, r3, r4, c, r5, r6, r7, r8⟩ : x = nI lo ∧ T.1 50 lo = 22 ∧ T.1 51 lo = nI (xP X i) ∧ ∃ c, lo < c ∧ c ≤ hi ∧ RepM X T ta (lo + 1) c (T.1 52 lo) ∧ RepS X T tb c c hi (T.1 53 lo) := hR
  rw [bdT_n, if_neg (by omega), if_neg (by omega), if_pos (Or.inr rfl)] at hN hd
  have zm : inb (nI lo) 8200 := nin (by omega) (by omega)
  have cm : (nI lo).toNatClampNeg = lo := nc (by omega)
  have hC := hP.1.1
  have eF : stS X it (tD 22 i e ta tb) 0 0 0 (er T) = whC X (stS X it tb) ta tb i (er T) := rfl
  rw [e_Model_checkStep nf (d' + 1)]
  unfold rb_Model_checkStep
  refine wp_gd zm ?_
  rw [cm, r3]
  refine wp_f (by decide) (wp_f (by decide) (wp_t rfl (wp_bi (R := fun _ _ T' => StQ X it (tD 22 i e ta tb) T T' lo lo hi a b (nI lo) 0 0 0) ?_ (fun r l T' h => wp_some h))))
  rw [e_Model_checkWhile nf d']
  have key : ∀ W : gSt, FO T W → W.1 7 = T.1 7 → W.1 83 = T.1 83 → er W = whO X tb (er T) → wp (rj_Model_checkWhile_28 (RR nf d') nf W (nI lo)) (fun _ _ T' => StQ X it (tD 22 i e ta tb) T T' lo lo hi a b (nI lo) 0 0 0) := by
    intro W fo f7 f83 eW
    have nW : Nw T W := Nw.fo fo
    have sW : SK (er T) (er W) v g n := by
      rw [eW]
      unfold whO
      split
      · exact SK.rf hP.1
      · exact hP.1.fo (FO.wr (by omega)) (by rw [sI_ne (by omega)]; exact hP.1.2.2.1)
    have zW : W.1 7 0 = 0 := by rw [f7]; exact hP.2.2.2.2.2.2
    have fmW : Fm X T W lo hi a b := nW.fm
    have hPW : Pre it W n v g s := hP.st fmW nW.1 sW.1 zW
    have k52 : W.1 52 lo = T.1 52 lo := by rw [nW.1.1 52 (by omega) (by omega) rfl]
    have k53 : W.1 53 lo = T.1 53 lo := by rw [nW.1.1 53 (by omega) (by omega) rfl]
    have R1 : RepM X W ta (lo + 1) c (W.1 52 lo) := by rw [k52]; exact r7.sw nW.1 (fun q _ _ => by rw [nW.2 61 rfl])
    have R2 : RepS X W tb c c hi (W.1 53 lo) := by rw [k53]; exact r8.sw nW.1 (fun q _ _ => by rw [nW.2 61 rfl])
    rw [eF] at hc
    unfold whC at hc eF
    dsimp only at hc eF
    rw [← eW] at hc eF
    refine wp_mono (x_wh28 hx hX hnf hE hB r5 r6 hhi (by rw [nW.1.1 51 (by omega) (by omega) rfl]; exact r4) R1 R2 w1.symm w2 w3 hbx hPW (by omega) hs (by omega) (by omega) hc) ?_
    intro r l T' h2
    have eT : er T' = stS X it (tD 22 i e ta tb) 0 0 0 (er T) := by rw [h2.1, eF]
    have swT : SPw T T' := SPw.of (by rw [eT]; exact st_fs _ _ _ _ _)
    refine ⟨eT, fmW.trw h2.2.1 nW.1, fun q => ?_⟩
    have an := h2.2.2 q
    rw [AnS_n]
    show nI lo = nI lo ∧ ∃ c, lo < c ∧ c ≤ hi ∧ AnE X T' ta (lo + 1) c (T'.1 52 lo) (chk X ta 0 0 (whO X tb (er T))).1 (chk X ta 0 0 (whO X tb (er T))).2.1 (chk X ta 0 0 (whO X tb (er T))).2.2.1 ∧ AnS X it T' tb c c hi (T'.1 53 lo) 0 0 (kwS (cdC X ta (whO X tb (er T))) (akY X ta (cdC X ta (whO X tb (er T)))))
    rw [← eW, swT.1 52 (by omega) (by omega) rfl, swT.1 53 (by omega) (by omega) rfl, ← k52, ← k53]
    exact ⟨rfl, c, r5, r6, an.1, an.2⟩
  unfold rb_Model_checkWhile
  by_cases c0 : T.1 83 0 = 0
  · refine wp_t c0 (key T FO.rf rfl rfl ?_)
    unfold whO
    rw [if_pos (show (er T).1 83 0 = 0 from c0)]
  · have gv := (gv_all (X := X) (nf := nf) (by omega) tb).1 T d' c hi c1 b v g v' g' (T.1 53 lo) r8 hhi w3 ⟨hC.2.2.2.2.2.1, hC.2.2.2.2.2.2.1⟩ (by omega)
    refine wp_f c0 (wp_gd zm ?_)
    rw [cm]
    refine wp_be gv (wp_st ?_)
    refine key _ (FO.wr (by omega)) (sI_ne (by omega)) (sI_ne (by omega)) ?_
    unfold whO
    rw [if_neg (show ¬ (er T).1 83 0 = 0 from c0), er_w rfl, er_gvA]
    rfl
end XL
