/-! if as a STEP -/
section XK
variable {nf d fl : Nat} {T T' T1 S : gSt} {X : Lx} {k i e it lo hi a b v g v' g' v1 g1 n s p m c c1 j : Nat} {x ys no x2 : Int32} {ta tb sa sb t : Tr}
theorem x_askY2 (hs2 : SPw S T) (hC : Ck (er T)) (hc : cn T < 6000) (hnf : 5000 ≤ nf) {t : Tr} (hR : RepM X S t lo hi x) (hhi : hi ≤ 8200) (hw : Wf X t false a b) : RR nf (d + 2) 74 T [x, 0] [] = some (akY X t T, 0, T) := by
  have f50 : T.1 50 = S.1 50 := hs2.1 50 (by omega) (by omega) rfl
  have f52 : T.1 52 = S.1 52 := hs2.1 52 (by omega) (by omega) rfl
  have f53 : T.1 53 = S.1 53 := hs2.1 53 (by omega) (by omega) rfl
  have f54 : T.1 54 = S.1 54 := hs2.1 54 (by omega) (by omega) rfl
  have f56 : T.2 56 = S.2 56 := hs2.2 56 (by omega)
  obtain ⟨m, m1, m2, m3, m4, m5⟩ := RepM_nd t _ _ _ _ _ hR hw
  rw [← f50] at m5
  rw [e_Model_asked nf (d + 1)]
  unfold rb_Model_asked
  rw [if_pos rfl, m1, x_ask68 hC hc (by omega) hnf]
  unfold akY
  have t30 := tkd_lt (X := X) t
  by_cases c : tkd X t = 4
  · obtain ⟨m', m1', m2', m3'⟩ := RepM_nm t _ _ _ _ _ hR hw c
    rw [← f56] at m3'
    have em : m = m' := nI_inj (by omega) (by omega) (m1.symm.trans m1')
    subst em
    rw [if_pos c, if_pos (show T.1 50 m = 4 by rw [m5, c]; rfl), m3']
  · rw [if_neg c, if_neg (show ¬ T.1 50 m = 4 from fun h => c (nI_inj (by omega) (by omega) (m5.symm.trans h)))]
theorem x_askN2 (hs2 : SPw S T) (hC : Ck (er T)) (hc : cn T < 6000) (hnf : 5000 ≤ nf) (t : Tr) : ∀ (lo hi a b : Nat) (x : Int32), RepM X S t lo hi x → hi ≤ 8200 → Wf X t false a b → RR nf (d + 2) 74 T [x, 1] [] = some (akN X t T, 0, T) := by
  have f50 : T.1 50 = S.1 50 := hs2.1 50 (by omega) (by omega) rfl
  have f52 : T.1 52 = S.1 52 := hs2.1 52 (by omega) (by omega) rfl
  have f53 : T.1 53 = S.1 53 := hs2.1 53 (by omega) (by omega) rfl
  have f54 : T.1 54 = S.1 54 := hs2.1 54 (by omega) (by omega) rfl
  have f56 : T.2 56 = S.2 56 := hs2.2 56 (by omega)
  induction t using Tr_ind with
  | hz t hz =>
    intro lo hi a b x h hhi hw
    unfold Wf at hw
    split at hw
    · rename_i k i e a b
      exact absurd rfl (hz k i e a b)
    · exact absurd hw.1 (by decide)
    · exact hw.elim
  | h k i e ta tb ihA ihB =>
    intro lo hi a b x h hhi hw
    have hw0 := hw
    have hR0 := h
    rw [akN_n]
    by_cases c2 : k = 2
    · subst c2
      rw [Wf_n] at hw
      unfold WfN at hw
      rw [if_neg (by decide), if_neg (by omega), if_pos rfl] at hw
      obtain ⟨c1, e1, e2, e3⟩ := hw
      rw [if_pos rfl]
      exact ihA lo hi _ _ x h hhi e2
    rw [if_neg c2]
    obtain ⟨m, m1, m2, m3, m4, m5⟩ := RepM_nd _ _ _ _ _ _ h hw
    rw [← f50] at m5
    have zm : inb (nI m) 8200 := nin (by omega) (by omega)
    have cm : (nI m).toNatClampNeg = m := nc (by omega)
    rw [e_Model_asked nf (d + 1)]
    unfold rb_Model_asked
    rw [if_neg (by decide), m1]
    simp only [gd, if_pos zm, cm]
    have t30 := tkd_lt (X := X) (tD k i e ta tb)
    by_cases c5 : ¬ k = 5
    · have h13 : ¬ T.1 50 m = 13 := by
        intro h
        have := nI_inj (b := 13) (by omega) (by omega) (m5.symm.trans h)
        have key : tkd X (tD k i e ta tb) = if k = 2 then tkd X ta else if k = 1 then (if xK X i = 5 then 0 else if xK X i = 27 then 1 else if xK X i = 34 then 2 else if xK X i = 35 then 3 else 4) else if k = 3 then (if xK X i = 49 then 14 else if xK X i = 61 then 16 else 17) else if k = 4 then 15 else if k = 5 then 13 else if k = 6 then 5 else if k = 7 then (if xK X (i + 3 + e) = 49 then 7 else 6) else if k = 8 then (if xK X i = 29 then 8 else if xK X i = 30 then 9 else if xK X i = 31 then 11 else 12) else if k = 9 then 10 else 30 := rfl
        rw [key, if_neg c2] at this
        revert this
        (repeat' split) <;> omega
      rw [if_neg h13, if_neg (fun q => c5 q.1)]
    have c5 := Decidable.not_not.mp c5
    subst c5
    rw [RepM_n] at h
    unfold RpN at h
    simp only [if_neg (show ¬ (5 = 1) by omega), if_neg (show ¬ (5 = 2) by omega), if_neg (show ¬ (5 = 3) by omega), if_neg (show ¬ (5 = 4) by omega), if_pos (rfl : 5 = 5)] at h
    obtain ⟨m', y, z, r1, r2, r3, r4, r5, r6, r7, r8, r9, r10⟩ := h
    rw [← f52] at r7
    rw [← f53] at r8
    rw [← f50] at r9
    rw [← f54] at r10
    have em : m' = m := nI_inj (by omega) (by omega) (r1.symm.trans m1)
    subst em
    rw [Wf_n] at hw
    unfold WfN at hw
    simp only [if_neg (show ¬ (false = true) by decide), if_neg (show ¬ (5 = 1) by omega), if_neg (show ¬ (5 = 2) by omega), if_neg (show ¬ (5 = 3) by omega), if_neg (show ¬ (5 = 4) by omega), if_pos (rfl : 5 = 5)] at hw
    obtain ⟨w1, w2⟩ := hw
    obtain ⟨ml, a1, a2, a3, a4, a5⟩ := RepM_nd ta _ _ _ _ _ r4 w1
    rw [← f50] at a5
    obtain ⟨mr, b1, b2, b3, b4, b5⟩ := RepM_nd tb _ _ _ _ _ r5 w2
    rw [← f50] at b5
    have zl : inb (nI ml) 8200 := nin (by omega) (by omega)
    have cl : (nI ml).toNatClampNeg = ml := nc (by omega)
    have zr : inb (nI mr) 8200 := nin (by omega) (by omega)
    have cr : (nI mr).toNatClampNeg = mr := nc (by omega)
    have tl := tkd_lt (X := X) ta
    have tr := tkd_lt (X := X) tb
    rw [if_pos r9, r10]
    by_cases g1 : chK e = 256
    · rw [if_pos g1, r7, a1]
      simp only [if_pos zl, cl]
      by_cases g2 : tkd X ta = 4
      · rw [if_pos (show T.1 50 ml = 4 by rw [a5, g2]; rfl), r8, b1]
        simp only [if_pos zr, cr]
        by_cases g3 : tkd X tb = 1
        · rw [if_pos (show T.1 50 mr = 1 by rw [b5, g3]; rfl)]
          simp only [vK]
          rw [x_ask68 hC hc (by omega) hnf, if_pos (show T.1 50 ml = 4 by rw [a5, g2]; rfl), if_pos (show True ∧ chK e = 256 ∧ tkd X ta = 4 ∧ tkd X tb = 1 from ⟨trivial, g1, g2, g3⟩)]
          obtain ⟨m2', n1, n2, n3⟩ := RepM_nm ta _ _ _ _ _ r4 w1 g2
          rw [← f56] at n3
          have em2 : ml = m2' := nI_inj (by omega) (by omega) (a1.symm.trans n1)
          subst em2
          rw [n3]
        · rw [if_neg (show ¬ T.1 50 mr = 1 from fun h => g3 (nI_inj (b := 1) (by omega) (by omega) (b5.symm.trans h))), if_neg (fun q => g3 q.2.2.2)]
      · rw [if_neg (show ¬ T.1 50 ml = 4 from fun h => g2 (nI_inj (b := 4) (by omega) (by omega) (a5.symm.trans h))), if_neg (fun q => g2 q.2.2.1)]
    · rw [if_neg g1, if_neg (fun q => g1 q.2.1)]
theorem Ws_3 (t : Tr) : Ws X t 3 a b v g v' g' → ∃ i e ta tb, t = tD 12 i e ta tb ∧ ∃ c v1 g1, Ws X ta 2 a c v g v1 g1 ∧ (if isZ tb = true then v' = v1 ∧ g' = g1 ∧ c ≤ b else Ws X tb 2 (c + 1) b v1 g1 v' g') := by
  induction t using Tr_ind with
  | hz t hz =>
    intro h
    unfold Ws at h
    split at h
    · rename_i k i e a b
      exact absurd rfl (hz k i e a b)
    · exact absurd h.1 (by omega)
    · exact h.elim
  | h k i e ta tb _ _ =>
    intro h
    rw [Ws_n] at h
    unfold WsN at h
    rw [if_neg (by omega), if_neg (by omega), if_pos rfl] at h
    obtain ⟨rfl, h⟩ := h
    exact ⟨i, e, ta, tb, rfl, h⟩
theorem t_21 (hx : PI X) (hX : xn X ≤ 4000) (hnf : 8300 ≤ nf) (hE : CkE nf X ta) (hK : Kid nf X it tb) : CkT nf X it (tD 21 i e ta tb) := by
  intro T d lo hi a b v g v' g' n s x hR hhi hw hbx hP hN hs hd hc
  obtain ⟨d', rfl⟩ : ∃ z, d = z + 4 := ⟨d - 4, by omega⟩
  rw [Ws_n] at hw
  obtain ⟨w1, c1, w2, w3⟩ : i = a ∧ ∃ c, (Wf X ta false (a + 1) c ∧ dpT ta ≤ 40) ∧ Ws X tb 3 c b v g v' g' := hw
  have mo3 := Ws_mo _ _ _ _ _ _ _ _ w3
  have le2 := Wf_le2 w2.1
  rw [RepS_n] at hR
  obtain ⟨rfl, r3, r4, c, r5, r6, r7, r8⟩ : x = nI lo ∧ T.1 50 lo = 21 ∧ T.1 51 lo = nI (xP X i) ∧ ∃ c, lo < c ∧ c ≤ hi ∧ RepM X T ta (lo + 1) c (T.1 52 lo) ∧ RepS X T tb lo c hi x := hR
  rw [bdT_n, if_neg (by omega), if_neg (by omega), if_pos (Or.inl rfl)] at hN hd
  obtain ⟨i2, e2, sa, sb, rfl, c2, v1, g1, wa, wb⟩ := Ws_3 tb w3
  have kd := hK _ _ _ _ _ rfl
  rw [RepS_n] at r8
  obtain ⟨c3, q1, q2, q3, q4⟩ : ∃ c', c < c' ∧ c' ≤ hi ∧ RepS X T sa c c c' (T.1 53 lo) ∧ RepS X T sb c' c' hi (T.1 54 lo) := r8
  rw [bdT_n, if_neg (by omega), if_pos (Or.inr (Or.inl rfl))] at hN hd
  have zm : inb (nI lo) 8200 := nin (by omega) (by omega)
  have cm : (nI lo).toNatClampNeg = lo := nc (by omega)
  have hC := hP.1.1
  have eF : stS X it (tD 21 i e ta (tD 12 i2 e2 sa sb)) 0 0 0 (er T) = ifC X (stS X it (tD 12 i2 e2 sa sb)) ta i (er T) := rfl
  rw [eF] at hc
  have cC : cn (cdC X ta (er T)) < 6000 := by
    unfold ifC at hc
    refine FS.lt (T' := _) ?_ ((FS.cd (X := X) (ta := ta)).tg hC.1) hc
    exact FS.if2 (st_fs (X := X) (it := it) (tD 12 i2 e2 sa sb) _ _ _ _) FS.rf
  rw [e_Model_checkStep nf (d' + 3)]
  unfold rb_Model_checkStep
  refine wp_gd zm ?_
  rw [cm, r3]
  refine wp_f (by decide) (wp_t rfl (wp_bi (R := fun _ _ T' => StQ X it (tD 21 i e ta (tD 12 i2 e2 sa sb)) T T' lo lo hi a b (nI lo) 0 0 0) ?_ (fun r l T' h => wp_some h)))
  rw [e_Model_checkIf nf (d' + 2), if_pr]
  refine wp_gd zm ?_
  rw [cm]
  refine wp_bi (x_cd hX hE r7 (by omega) w2.1 (by omega) hC hP.2.1 (by omega) (by omega) hP.2.2.1 cC) ?_
  intro r l C h1
  have spC : SP T C := SP.of (by rw [h1.1]; exact (chk_fe (X := X) ta 0 0 (er T)).tr FE_cn)
  have swC := spC.toW
  have fmC : Fm X T C lo hi a b := h1.2.1.up (by omega) (by omega) (by omega) (by omega)
  unfold ifC at hc eF
  by_cases c0 : C.1 7 0 = 0
  · have c0' : (cdC X ta (er T)).1 7 0 = 0 := by rw [← h1.1]; exact c0
    rw [if_pos c0'] at hc eF
    have sC := si_cd (X := X) w2.1 (by omega) hP.1 cC
    rw [← h1.1] at sC hc eF
    have cnC : cn C < 6000 := by
      have : cn (er C) < 6000 := by rw [h1.1]; exact cC
      exact this
    have k52 : C.1 52 lo = T.1 52 lo := by rw [swC.1 52 (by omega) (by omega) rfl]
    refine wp_be (x_bd0 c0) (wp_t rfl (wp_gd zm ?_))
    rw [k52]
    refine wp_be (x_askY2 swC sC.1.1 cnC (by omega) r7 (by omega) w2.1) (wp_gd zm ?_)
    rw [k52]
    refine wp_be (x_askN2 swC sC.1.1 cnC (by omega) ta _ _ _ _ _ r7 (by omega) w2.1) ?_
    have eP : stS X it (tD 12 i2 e2 sa sb) (akY X ta (er C)) (akN X ta (er C)) i (er C) = prC X (stS X it sa) (stS X it sb) (isZ sb) (akY X ta (er C)) (akN X ta (er C)) i (er C) := rfl
    rw [eP] at hc eF
    rw [er_akY, er_akN] at hc eF
    have hPC : Pre it C n v g s := hP.st fmC swC sC.1 c0
    have k53 : C.1 53 lo = T.1 53 lo := by rw [swC.1 53 (by omega) (by omega) rfl]
    have k54 : C.1 54 lo = T.1 54 lo := by rw [swC.1 54 (by omega) (by omega) rfl]
    have r61 : ∀ q, c ≤ q → C.1 61 q = T.1 61 q := fun q h2 => (h1.2.1.1 q (by omega)).2
    have R1 : RepS X C sa c c c3 (C.1 53 lo) := by rw [k53]; exact q3.sw swC (fun q h2 _ => r61 q h2)
    have R2 : RepS X C sb c3 c3 hi (C.1 54 lo) := by rw [k54]; exact q4.sw swC (fun q h2 _ => r61 q (by omega))
    refine wp_mono (x_pr hx hX kd.1 kd.2 (by omega) (by omega) q2 hhi (by rw [swC.1 51 (by omega) (by omega) rfl]; exact r4) R1 R2 wa wb hbx hPC (by omega) (by omega) (by omega) (by omega) (by omega) hc) ?_
    intro r l T' h2
    have eT : er T' = stS X it (tD 21 i e ta (tD 12 i2 e2 sa sb)) 0 0 0 (er T) := by rw [h2.1, eF]
    have swT : SPw T T' := SPw.of (by rw [eT]; exact st_fs _ _ _ _ _)
    have swCT : SPw C T' := SPw.of (by rw [h2.1]; exact FS.pr (st_fs sa) (st_fs sb))
    refine ⟨eT, fmC.trw (h2.2.1.up (by omega) (by omega) (by omega) (by omega)) swC, fun q => ?_⟩
    have an := h2.2.2 q
    rw [AnS_n]
    show nI lo = nI lo ∧ ∃ c, lo < c ∧ c ≤ hi ∧ AnE X T' ta (lo + 1) c (T'.1 52 lo) (chk X ta 0 0 (er T)).1 (chk X ta 0 0 (er T)).2.1 (chk X ta 0 0 (er T)).2.2.1 ∧ AnS X it T' (tD 12 i2 e2 sa sb) lo c hi (nI lo) (akY X ta (cdC X ta (er T))) (akN X ta (cdC X ta (er T))) (cdC X ta (er T))
    rw [← h1.1, er_akY, er_akN, swT.1 52 (by omega) (by omega) rfl]
    refine ⟨rfl, c, r5, r6, ?_, ?_⟩
    · exact AnE.kp (b := c1) (by omega) ta false _ c1 (lo + 1) c _ _ _ _ (Nat.le_refl _) w2.1 (Kp.fmw hx swCT h2.2.1 (by omega) (by omega) (by omega) (by omega)) (h1.2.2 c0)
    · rw [AnS_n]
      show ∃ c', c < c' ∧ c' ≤ hi ∧ AnS X it T' sa c c c' (T'.1 53 lo) 0 0 (kwS (er C) (akY X ta C)) ∧ (if isZ sb = true then T'.1 54 lo = -1 else AnS X it T' sb c' c' hi (T'.1 54 lo) 0 0 (kwS (rsS (stS X it sa 0 0 0 (kwS (er C) (akY X ta C))) ((er C).1 81 0) ((er C).1 82 0) ((er C).1 75 0) ((er C).1 83 0)) (akN X ta C)))
      rw [swT.1 53 (by omega) (by omega) rfl, swT.1 54 (by omega) (by omega) rfl, ← k53, ← k54]
      exact ⟨c3, q1, q2, an.1, an.2⟩
  · have c0' : ¬ (cdC X ta (er T)).1 7 0 = 0 := by rw [← h1.1]; exact c0
    rw [if_neg c0'] at eF
    refine wp_be (x_bd1 c0) (wp_f (by decide) (wp_some ⟨?_, fmC, fun q => absurd q c0⟩))
    rw [eF, h1.1]
end XK
