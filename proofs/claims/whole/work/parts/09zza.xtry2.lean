/-! try as a STEP; every STEP -/
section XN
variable {nf d fl : Nat} {T T' T1 S : gSt} {X : Lx} {k i e it lo hi a b v g v' g' v1 g1 n s p m c c1 j : Nat} {x ys no x2 : Int32} {ta tb sa sb t : Tr}
theorem er_tro : er (trO T) = trO (er T) := by
  unfold trO
  rw [er_w rfl, er_w rfl]
  rfl
theorem t_28 (hx : PI X) (hX : xn X ≤ 4000) (hnf : 8300 ≤ nf) (hA : CkB nf X it ta) (hB : CkB nf X it tb) : CkT nf X it (tD 28 i e ta tb) := by
  intro T d lo hi a b v g v' g' n s x hR hhi hw hbx hP hN hs hd hc
  obtain ⟨d', rfl⟩ : ∃ z, d = z + 3 := ⟨d - 3, by omega⟩
  rw [Ws_n] at hw
  obtain ⟨w1, c1, v1, g1, wa, wb⟩ : i = a ∧ ∃ c v1 g1, Ws X ta 2 (a + 1) c v g v1 g1 ∧ Ws X tb 2 (c + 1) b v1 g1 v' g' := hw
  have moa := Ws_mo _ _ _ _ _ _ _ _ wa
  have mob := Ws_mo _ _ _ _ _ _ _ _ wb
  rw [RepS_n] at hR
  obtain ⟨rfl, r3, r4, c, r5, r6, r7, r8⟩ : x = nI lo ∧ T.1 50 lo = 28 ∧ T.1 51 lo = nI (xP X i) ∧ ∃ c, lo < c ∧ c ≤ hi ∧ RepS X T ta (lo + 1) (lo + 1) c (T.1 52 lo) ∧ RepS X T tb c c hi (T.1 53 lo) := hR
  rw [bdT_n, if_neg (by omega), if_pos (Or.inr (Or.inr rfl))] at hN hd
  have b1 : 1 ≤ bdT ta := by
    obtain ⟨_, _, _, _, rfl, _, _⟩ := Ws_2 ta wa
    rw [bdT_n, if_pos rfl]
    omega
  have zm : inb (nI lo) 8200 := nin (by omega) (by omega)
  have cm : (nI lo).toNatClampNeg = lo := nc (by omega)
  have hC := hP.1.1
  have h0 := hP.2.2.2.2.2.2
  have h84 : T.1 84 0 = nI n := hP.1.2.2.2.2.2.2.1
  have h83 : T.1 83 0 = 0 ∨ T.1 83 0 = 1 := hP.1.2.2.1
  have ean : arn T = n := by unfold arn; rw [h84]; exact nc (by omega)
  have zn : inb (nI n) 40 := nin (by omega) (by omega)
  have cn' : (nI n).toNatClampNeg = n := nc (by omega)
  have eF : stS X it (tD 28 i e ta tb) 0 0 0 (er T) = trC X (stS X it ta) (stS X it tb) ta i (er T) := rfl
  rw [eF] at hc
  have gv := (gv_all (X := X) (nf := nf) (by omega) ta).1 T (d' + 1) (lo + 1) c (a + 1) c1 v g v1 g1 (T.1 52 lo) r7 (by omega) wa ⟨hC.2.2.2.2.2.1, hC.2.2.2.2.2.2.1⟩ (by omega)
  rw [e_Model_checkStep nf (d' + 2)]
  unfold rb_Model_checkStep
  refine wp_gd zm ?_
  rw [cm, r3]
  refine wp_f (by decide) (wp_f (by decide) (wp_f (by decide) (wp_f (by decide) (wp_f (by decide) (wp_f (by decide) (wp_f (by decide) (wp_f (by decide) (wp_t rfl (wp_bi (R := fun _ _ T' => StQ X it (tD 28 i e ta tb) T T' lo lo hi a b (nI lo) 0 0 0) ?_ (fun r l T' h => wp_some h))))))))))
  rw [e_Model_checkTry nf (d' + 1)]
  unfold rb_Model_checkTry
  refine wp_gd zm ?_
  rw [cm]
  refine wp_be gv (wp_v (wp_v (wp_v (wp_v ?_))))
  rw [h84]
  refine wp_gd zn (wp_st ?_)
  rw [cn']
  have k1 : (sI T 85 n (-1)).1 84 0 = nI n := by rw [sI_ne (by omega)]; exact h84
  rw [k1, nI_1]
  have eO : sI (sI T 85 n (-1)) 84 0 (nI (n + 1)) = trO T := by
    unfold trO
    rw [ean]
  refine wp_st ?_
  rw [eO]
  have nO : Nw T (trO T) := (Nw.wr (by omega)).tr (Nw.wr (by omega))
  have sO : SK (er T) (er (trO T)) v g (n + 1) := by rw [er_tro]; exact si_tro hP.1 (by omega)
  have zO : (trO T).1 7 0 = 0 := by
    unfold trO
    rw [sI_ne (by omega), sI_ne (by omega)]
    exact h0
  have eOe := er_tro (T := T)
  unfold trC at hc eF
  dsimp only at hc eF
  rw [← eOe] at hc eF
  have fmO : Fm X T (trO T) lo hi a b := nO.fm
  have hPO : Pre it (trO T) (n + 1) v g s := hP.st fmO nO.1 sO.1 zO
  have tM : trM X (stS X it ta) ta (er T) = sI (rsS (sI (stS X it ta 0 0 0 (er (trO T))) 84 0 ((stS X it ta 0 0 0 (er (trO T))).1 84 0 - 1)) ((er T).1 81 0) (if (er T).1 83 0 = 0 then (er T).1 82 0 else (er T).1 82 0 &&& (gvA X ta (er T) 0 ^^^ (-1))) ((er T).1 75 0) ((er T).1 83 0)) 87 0 ((rsS (sI (stS X it ta 0 0 0 (er (trO T))) 84 0 ((stS X it ta 0 0 0 (er (trO T))).1 84 0 - 1)) ((er T).1 81 0) (if (er T).1 83 0 = 0 then (er T).1 82 0 else (er T).1 82 0 &&& (gvA X ta (er T) 0 ^^^ (-1))) ((er T).1 75 0) ((er T).1 83 0)).1 87 0 + 1) := by
    unfold trM
    rw [eOe]
  have anO : ∀ T', AnS X it T' ta (lo + 1) (lo + 1) c (T.1 52 lo) 0 0 (er (trO T)) → AnS X it T' ta (lo + 1) (lo + 1) c (T.1 52 lo) 0 0 (trO (er T)) := by
    intro T' h
    rw [eOe] at h
    exact h
  generalize trO T = O at *
  have k52 : O.1 52 lo = T.1 52 lo := by rw [nO.1.1 52 (by omega) (by omega) rfl]
  have rO : RepS X O ta (lo + 1) (lo + 1) c (T.1 52 lo) := r7.sw nO.1 (fun q _ _ => by rw [nO.2 61 rfl])
  have fA := st_fs (X := X) (it := it) ta 0 0 0 (er O)
  have gA := fA.tg sO.1.1.1
  have cA : cn (stS X it ta 0 0 0 (er O)) < 6000 := by
    refine FS.lt (T' := _) ?_ gA hc
    exact FS.if2 (FS.if2 (((((((FS.wr (by omega)).tr FS.rs).tr (FS.wr (by omega))).tr (st_fs (X := X) (it := it) tb _ _ _ _)).tr (FS.wr (by omega))).tr FS.mt)) (((((FS.wr (by omega)).tr FS.rs).tr (FS.wr (by omega))).tr (st_fs (X := X) (it := it) tb _ _ _ _)).tr (FS.wr (by omega)))) (FS.wr (by omega))
  refine wp_gd zm ?_
  rw [k52]
  refine wp_bi (hA O (d' + 1) (lo + 1) c (a + 1) c1 v g v1 g1 (n + 1) s (T.1 52 lo) rO (by omega) wa (by omega) hPO (by omega) (by omega) (by omega) cA) ?_
  intro r l U hQ
  rw [← hQ.1] at hc eF tM
  refine wp_st ?_
  have nU : Nw U (sI U 84 0 (U.1 84 0 - 1)) := Nw.wr (by omega)
  have eU : er (sI U 84 0 (U.1 84 0 - 1)) = sI (er U) 84 0 ((er U).1 84 0 - 1) := er_w rfl
  have z7 : (sI U 84 0 (U.1 84 0 - 1)).1 7 0 = U.1 7 0 := by rw [sI_ne (by omega)]
  have sU : SI (er U) v1 g1 (n + 1) → SK (er U) (er (sI U 84 0 (U.1 84 0 - 1))) v1 g1 n := by rw [eU]; exact si_out
  rw [← eU] at hc eF tM
  generalize sI U 84 0 (U.1 84 0 - 1) = Z at *
  have swU : SPw T U := nO.1.tr hQ.sw
  have swZ : SPw T Z := swU.tr nU.1
  have fmZ : Fm X T Z lo hi a b := (fmO.trw (hQ.2.1.up (by omega) (by omega) (by omega) (by omega)) nO.1).trw nU.fm swU
  by_cases c0 : Z.1 7 0 = 0
  · have c0' : (er Z).1 7 0 = 0 := c0
    rw [if_pos c0', er_gvA] at hc eF
    rw [er_gvA] at tM
    have e8 : (er T).1 81 0 = T.1 81 0 ∧ (er T).1 82 0 = T.1 82 0 ∧ (er T).1 75 0 = T.1 75 0 ∧ (er T).1 83 0 = T.1 83 0 := ⟨rfl, rfl, rfl, rfl⟩
    rw [e8.1, e8.2.1, e8.2.2.1, e8.2.2.2] at hc eF tM
    have uo : U.1 7 0 = 0 := z7.symm.trans c0
    have s2 := st_inv (X := X) (it := it) ta 2 _ _ _ _ _ _ (n + 1) wa (by omega) (by show n + 1 + bdT ta ≤ 41; omega) 0 0 0 (n + 1) (er O) (Nat.le_refl _) sO.1 cA (by rw [← hQ.1]; exact uo)
    rw [← hQ.1] at s2
    have sZ := sU s2.1
    have hPZ : Pre it Z n v1 g1 s := hP.st fmZ swZ sZ.1 c0
    have k53 : Z.1 53 lo = T.1 53 lo := by rw [swZ.1 53 (by omega) (by omega) rfl]
    have RZ : RepS X Z tb c c hi (Z.1 53 lo) := by
      rw [k53]
      exact r8.sw swZ (fun q h1 h2 => by rw [nU.2 61 rfl, (hQ.2.1.1 q (by omega)).2, nO.2 61 rfl])
    have z83 : Z.1 83 0 = 0 ∨ Z.1 83 0 = 1 := sZ.1.2.2.1
    refine wp_be (x_bd0 c0) (wp_t rfl (wp_v (wp_v (wp_v (wp_v (wp_st ?_))))))
    have key : ∀ y0 : Int32, y0 = (if T.1 83 0 = 0 then T.1 82 0 else T.1 82 0 &&& (gvA X ta T 0 ^^^ (-1))) → wp (rj_Model_checkTry_128 (RR nf (d' + 1)) nf (sI Z 81 0 (T.1 81 0)) (nI lo) (T.1 75 0) (T.1 83 0) (Z.1 81 0) (Z.1 82 0) (Z.1 75 0) (Z.1 83 0) y0) (fun _ _ T' => StQ X it (tD 28 i e ta tb) T T' lo lo hi a b (nI lo) 0 0 0) := by
      intro y0 ey
      rw [← ey] at hc eF tM
      rw [ty_tail]
      have cB : cn (stS X it tb 0 0 0 (trM X (stS X it ta) ta (er T))) < 6000 := by
        rw [tM]
        refine FS.lt (T' := _) ?_ ((st_fs (X := X) (it := it) tb 0 0 0 _).tg ((FS.rs.tr (FS.wr (by omega))).tg sZ.1.1.1)) hc
        exact FS.if2 ((FS.wr (by omega)).tr FS.mt) (FS.wr (by omega))
      refine wp_mono (x_ty2 (i := i) (a := a) hX hB r5 hhi (by rw [swZ.1 51 (by omega) (by omega) rfl]; exact r4) h83 z83 RZ wb (by omega) hbx hPZ r6 (by omega) hs (by omega) tM cB) ?_
      intro r l T' h2
      rw [tM] at h2
      have eT : er T' = stS X it (tD 28 i e ta tb) 0 0 0 (er T) := by rw [h2.1, eF]
      have swT : SPw T T' := swZ.tr h2.2.2.1
      refine ⟨eT, fmZ.trw h2.2.1 swZ, fun q => ?_⟩
      have an := h2.2.2.2.2.2 q
      have uz : AnS X it U ta (lo + 1) (lo + 1) c (T.1 52 lo) 0 0 (er O) := hQ.2.2 uo
      rw [AnS_n]
      show nI lo = nI lo ∧ T'.1 61 lo = (trM X (stS X it ta) ta (er T)).1 87 0 ∧ ∃ c, lo < c ∧ c ≤ hi ∧ AnS X it T' ta (lo + 1) (lo + 1) c (T'.1 52 lo) 0 0 (trO (er T)) ∧ AnS X it T' tb c c hi (T'.1 53 lo) 0 0 (trM X (stS X it ta) ta (er T))
      rw [swT.1 52 (by omega) (by omega) rfl, swT.1 53 (by omega) (by omega) rfl, tM]
      refine ⟨rfl, an.1, c, r5, r6, anO T' ?_, by rw [← k53]; exact an.2⟩
      refine AnS.kp ta _ _ _ _ _ _ _ _ _ _ _ _ _ _ wa (by omega) (nU.kp.tr ?_) uz
      refine ⟨SPw.toX h2.2.2.1, fun q h3 h4 => h2.2.2.2.1 q (by omega) (by omega), fun w q h3 h4 h5 => ?_⟩
      rcases h2.2.2.2.2.1 w with z | ⟨q', e1, e2, e3⟩
      · exact z
      · have := hx q q' (by omega) (by omega) (h5.symm.trans e3)
        omega
    by_cases d0 : T.1 83 0 = 0
    · exact wp_t d0 (key _ (by rw [if_pos d0]))
    · exact wp_f d0 (key _ (by rw [if_neg d0]))
  · have c0' : ¬ (er Z).1 7 0 = 0 := c0
    rw [if_neg c0'] at eF
    exact wp_be (x_bd1 c0) (wp_f (by decide) (wp_some ⟨eF.symm, fmZ, fun q => absurd q c0⟩))
theorem ws_no (hz : ∀ k i e a b, t ≠ tD k i e a b) {m : Nat} (hm : m ≠ 1) (hw : Ws X t m a b v g v' g') : False := by
  unfold Ws at hw
  split at hw
  · exact absurd rfl (hz _ _ _ _ _)
  · exact hm hw.1
  · exact hw
/-- the reference checks every BLOCK as the spec says -/
theorem st_all (hx : PI X) (hX : xn X ≤ 4000) (hPl : ∀ q, q < xn X → xP X q < 100000) (hnf : 8300 ≤ nf) (t : Tr) : CkB nf X it t ∧ CkG nf X it t ∧ CkT nf X it t ∧ Kid nf X it t := by
  induction t using Tr_ind with
  | hz t hz =>
    refine ⟨?_, g_z hz, ?_, fun k i e a b h => absurd h (hz k i e a b)⟩
    · intro T d lo hi a b v g v' g' n s x _ _ hw
      exact (ws_no hz (by omega) hw).elim
    · intro T d lo hi a b v g v' g' n s x _ _ hw
      exact (ws_no hz (by omega) hw).elim
  | h k i e ta tb ihA ihB =>
    have eA : CkE nf X ta := x_chk hx hX hnf ta
    have eB : CkE nf X tb := x_chk hx hX hnf tb
    refine ⟨b_n hnf ihA.2.1, g_n hx hX ihA.2.2.1 ihB.2.1, ?_, fun k' i' e' a' b' h => ?_⟩
    · by_cases k20 : k = 20
      · subst k20; exact t_20 hx hX hPl hnf eA
      by_cases k21 : k = 21
      · subst k21; exact t_21 hx hX hnf eA ihB.2.2.2
      by_cases k22 : k = 22
      · subst k22; exact t_22 hx hX hnf eA ihB.1
      by_cases k23 : k = 23
      · subst k23; exact t_23 hx hX hnf eA
      by_cases k24 : k = 24 ∨ k = 25 ∨ k = 30
      · exact t_24 hX eA k24
      by_cases k26 : k = 26
      · subst k26; exact t_26 hx hX hnf ihA.1
      by_cases k27 : k = 27
      · subst k27; exact t_27 hnf
      by_cases k28 : k = 28
      · subst k28; exact t_28 hx hX hnf ihA.1 ihB.1
      by_cases k29 : k = 29
      · subst k29; exact t_29 hx hX hnf eA eB
      intro T d lo hi a b v g v' g' n s x _ _ hw
      rw [Ws_n] at hw
      unfold WsN at hw
      rw [if_neg (by omega), if_neg (by omega), if_neg (by omega), if_neg k20, if_neg k21, if_neg k22, if_neg k23, if_neg (by omega), if_neg (by omega), if_neg k29, if_neg k26, if_neg k27, if_neg k28] at hw
      exact hw.elim
    · injection h with h1 h2
      injection h2 with h3 h4
      subst h3
      subst h4
      exact ⟨ihA.1, ihB.1⟩
end XN
