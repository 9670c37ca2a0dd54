/-! STEPS without BLOCKS, by checkStep 70 -/
section XT
variable {nf d fl : Nat} {T T' T1 S : gSt} {X : Lx} {k i e it lo hi a b v g v' g' n s p m c : Nat} {x ys no x2 : Int32} {ta tb t : Tr}
/-- print and throw -/
theorem x_ns (hX : xn X ≤ 4000) (hE : CkE nf X ta) (hR : RepM X T ta lo hi x) (hhi : hi ≤ 8200) (hw : Wf X ta false a b) (hbx : b ≤ xn X) (hC : Ck (er T)) (hs : T.1 94 0 = nI s) (hss : s + (hi - lo) ≤ 8200) (hd : 6 * dpT ta + 22 ≤ d) (hU : nU T ≤ 4000) (hc : cn (niT (chk X ta 0 0 (er T)).2.2.2 (chk X ta 0 0 (er T)).1 (plT X ta)) < 6000) : wp (RR nf d 69 T [x] []) (fun _ _ T' => er T' = niT (chk X ta 0 0 (er T)).2.2.2 (chk X ta 0 0 (er T)).1 (plT X ta) ∧ Fm X T T' lo hi a b ∧ (T'.1 7 0 = 0 → AnE X T' ta lo hi x (chk X ta 0 0 (er T)).1 (chk X ta 0 0 (er T)).2.1 (chk X ta 0 0 (er T)).2.2.1)) := by
  obtain ⟨d', rfl⟩ : ∃ z, d = z + 2 := ⟨d - 2, by omega⟩
  obtain ⟨y, y1, y2, y3, y4, y5⟩ := RepM_nd ta _ _ _ _ _ hR hw
  have hc1 := FE.ni.lt ((chk_fe (X := X) ta 0 0 (er T)).tg hC.1) hc
  have hB := hE T (d' + 1) lo hi a b s x hR hhi hw hbx hC hs hss (by omega) hU hc1
  rw [y1] at hB ⊢
  refine wp_mono (x_ni (by omega) y4 hB (fun r T' h => (ch_bh hw (by omega) hC hc1 h.1).1.1)) ?_
  intro r l T' hE2
  obtain ⟨r1, T1, h1, rfl⟩ := hE2
  have bh := ch_bh hw (by omega) hC hc1 h1.1
  have e1 : niT (er T1) r1 (plT X ta) = niT (er T1) (chk X ta 0 0 (er T)).1 (plT X ta) := niT_eq (fun q => (h1.2.2 q).1)
  refine ⟨?_, h1.2.1.tr (Fm.nt nt_ni) bh.1.1, fun q => ?_⟩
  · rw [er_niT, e1, h1.1]
  · have q1 : T1.1 7 0 = 0 := Decidable.byContradiction fun z => (FE.ni (T := T1)).2.2.2 z q
    exact AnE.kp hbx ta false a b lo hi _ _ _ _ (Nat.le_refl _) hw (Kp.nt (SP.fe FE.ni) nt_ni) (h1.2.2 q1).2
theorem er_cnT {r pl : Int32} : er (cnT T r pl) = cnT (er T) r pl := by
  unfold cnT
  by_cases c : T.1 7 0 = 0 ∧ ¬ r = 0 ∧ isPt T r = 0
  · have c' : (er T).1 7 0 = 0 ∧ ¬ r = 0 ∧ isPt (er T) r = 0 := c
    rw [if_pos c, if_pos c', er_fl]
  · have c' : ¬ ((er T).1 7 0 = 0 ∧ ¬ r = 0 ∧ isPt (er T) r = 0) := c
    rw [if_neg c, if_neg c']
theorem FE_cn {r pl : Int32} : FE T (cnT T r pl) := by
  unfold cnT
  split
  · exact FE.fl (by decide)
  · exact FE.rf
theorem nt_cn {r pl : Int32} : ∀ k, anF k = true → (cnT T r pl).1 k = T.1 k := fun k hk => by
  unfold cnT
  split
  · exact nt_fl k hk
  · rfl
theorem cn_cn {r pl : Int32} : cn (cnT T r pl) = cn T := by
  unfold cnT
  split
  · exact cn_fl
  · rfl
/-- a condition -/
theorem x_cd (hX : xn X ≤ 4000) (hE : CkE nf X ta) (hR : RepM X T ta lo hi x) (hhi : hi ≤ 8200) (hw : Wf X ta false a b) (hbx : b ≤ xn X) (hC : Ck (er T)) (hs : T.1 94 0 = nI s) (hss : s + (hi - lo) ≤ 8200) (hd : 6 * dpT ta + 22 ≤ d) (hU : nU T ≤ 4000) (hc : cn (cdC X ta (er T)) < 6000) : wp (RR nf d 76 T [x] []) (fun _ _ T' => er T' = cdC X ta (er T) ∧ Fm X T T' lo hi a b ∧ (T'.1 7 0 = 0 → AnE X T' ta lo hi x (chk X ta 0 0 (er T)).1 (chk X ta 0 0 (er T)).2.1 (chk X ta 0 0 (er T)).2.2.1)) := by
  obtain ⟨d', rfl⟩ : ∃ z, d = z + 2 := ⟨d - 2, by omega⟩
  obtain ⟨y, y1, y2, y3, y4, y5⟩ := RepM_nd ta _ _ _ _ _ hR hw
  unfold cdC at hc ⊢
  rw [cn_cn] at hc
  have hB := hE T (d' + 1) lo hi a b s x hR hhi hw hbx hC hs hss (by omega) hU hc
  rw [y1] at hB ⊢
  refine wp_mono (x_cond (P := fun r T' => ChQ X ta T lo hi a b (nI y) r T') (by omega) y4 hB (fun r T' h => ?_)) ?_
  · have bh := ch_bh hw (by omega) hC hc h.1
    exact ⟨bh.1, fun q => by rw [(h.2.2 q).1]; exact (bh.2 q).1⟩
  intro r l T' hE2
  obtain ⟨r1, T1, h1, rfl⟩ := hE2
  have bh := ch_bh hw (by omega) hC hc h1.1
  have e1 : cnT (er T1) r1 (plT X ta) = cnT (er T1) (chk X ta 0 0 (er T)).1 (plT X ta) := by
    by_cases q : T1.1 7 0 = 0
    · rw [(h1.2.2 q).1]
    · have q' : ¬ (er T1).1 7 0 = 0 := q
      unfold cnT
      rw [if_neg (fun z => q' z.1), if_neg (fun z => q' z.1)]
  refine ⟨?_, h1.2.1.tr (Fm.nt nt_cn) bh.1.1, fun q => ?_⟩
  · rw [er_cnT, e1, h1.1]
  · have q1 : T1.1 7 0 = 0 := Decidable.byContradiction fun z => (FE_cn (T := T1)).2.2.2 z q
    exact AnE.kp hbx ta false a b lo hi _ _ _ _ (Nat.le_refl _) hw (Kp.nt (SP.fe FE_cn) nt_cn) (h1.2.2 q1).2
theorem t_24 (hX : xn X ≤ 4000) (hE : CkE nf X ta) (hk : k = 24 ∨ k = 25 ∨ k = 30) : CkT nf X it (tD k i e ta tb) := by
  intro T d lo hi a b v g v' g' n s x hR hhi hw hbx hP hN hs hd hc
  obtain ⟨d', rfl⟩ : ∃ z, d = z + 1 := ⟨d - 1, by omega⟩
  rw [Ws_n] at hw
  unfold WsN at hw
  rw [if_neg (by omega), if_neg (by omega), if_neg (by omega), if_neg (by omega), if_neg (by omega), if_neg (by omega), if_neg (by omega)] at hw
  obtain ⟨w1, rfl, rfl, c, w2, w3⟩ : ∃ (_ : k = 24 ∨ k = 25 ∨ k = 30), v' = v ∧ g' = g ∧ ∃ c, (Wf X ta false (if k = 30 then a else a + 1) c ∧ dpT ta ≤ 40) ∧ c < b := by
    by_cases q : k = 30
    · rw [if_neg (by omega), if_pos q] at hw
      rw [if_pos q]
      exact ⟨hk, hw.2.1, hw.2.2.1, hw.2.2.2⟩
    · rw [if_pos (by omega)] at hw
      rw [if_neg q]
      exact ⟨hk, hw.2.1, hw.2.2.1, hw.2.2.2⟩
  have la : a ≤ (if k = 30 then a else a + 1) := by split <;> omega
  generalize (if k = 30 then a else a + 1) = a' at *
  rw [RepS_n] at hR
  unfold RsN at hR
  rw [if_neg (by omega), if_neg (by omega), if_neg (by omega), if_neg (by omega), if_neg (by omega), if_pos hk] at hR
  obtain ⟨m, rfl, r2, r3, r4, r5, r6⟩ := hR
  have zm : inb (nI m) 8200 := nin (by omega) (by omega)
  have cm : (nI m).toNatClampNeg = m := nc (by omega)
  have hC := hP.1.1
  rw [stS_n] at hc
  rw [e_Model_checkStep nf d']
  unfold rb_Model_checkStep
  refine wp_gd zm ?_
  rw [cm, r5]
  have key : ∀ (kk : Nat) (T1 : gSt), kk = k → (kk = 24 ∨ kk = 25) → SPw T T1 → AnE X T1 ta lo m (T.1 52 m) (chk X ta 0 0 (er T)).1 (chk X ta 0 0 (er T)).2.1 (chk X ta 0 0 (er T)).2.2.1 → AnS X it T1 (tD kk i e ta tb) lo lo hi (nI m) 0 0 (er T) := by
    intro kk T1 _ h2 sw hA
    rw [AnS_n]
    unfold AsN
    rw [if_neg (by omega), if_neg (by omega), if_neg (by omega), if_neg (by omega), if_neg (by omega), if_pos h2, sw.1 52 (by omega) (by omega) rfl]
    exact ⟨m, rfl, r2, r3, hA⟩
  rcases hk with rfl | rfl | rfl
  · refine wp_f (by decide) (wp_f (by decide) (wp_f (by decide) (wp_f (by decide) (wp_t rfl (wp_gd zm (wp_bi (x_ns hX hE r4 (by omega) w2.1 (by omega) hC hP.2.1 (by omega) (by omega) hP.2.2.1 hc) ?_))))))
    intro r l T1 h1
    have sw : SPw T T1 := SPw.of (by rw [h1.1]; exact st_fs (X := X) (it := it) (tD 24 i e ta tb) 0 0 0 (er T))
    exact wp_some ⟨h1.1, h1.2.1.up (by omega) (by omega) (by omega) (by omega), fun q => key 24 T1 rfl (Or.inl rfl) sw (h1.2.2 q)⟩
  · have hc' : cn (niT (chk X ta 0 0 (er T)).2.2.2 (chk X ta 0 0 (er T)).1 (plT X ta)) < 6000 := hc
    refine wp_f (by decide) (wp_f (by decide) (wp_f (by decide) (wp_f (by decide) (wp_f (by decide) (wp_t rfl (wp_gd zm (wp_bi (x_ns hX hE r4 (by omega) w2.1 (by omega) hC hP.2.1 (by omega) (by omega) hP.2.2.1 hc') ?_)))))))
    intro r l T1 h1
    obtain ⟨d2, rfl⟩ : ∃ z, d' = z + 1 := ⟨d' - 1, by omega⟩
    refine wp_be x_stop ?_
    have e1 : er (spS T1) = spS (niT (chk X ta 0 0 (er T)).2.2.2 (chk X ta 0 0 (er T)).1 (plT X ta)) := by rw [er_sp, h1.1]
    have sp1 : SP T T1 := SP.of (by rw [h1.1]; exact (chk_fe (X := X) ta 0 0 (er T)).tr FE.ni)
    refine wp_some ⟨e1, (h1.2.1.tr (Fm.nt nt_sp) sp1).up (by omega) (by omega) (by omega) (by omega), fun q => ?_⟩
    exact key 25 _ rfl (Or.inr rfl) (sp1.toW.tr sw_sp) (AnE.kp (b := c) (by omega) ta false _ c lo m _ _ _ _ (Nat.le_refl _) w2.1 (Kp.nw sw_sp nt_sp) (h1.2.2 q))
  · have hc' : cn (chk X ta 0 0 (er T)).2.2.2 < 6000 := hc
    refine wp_f (by decide) (wp_f (by decide) (wp_f (by decide) (wp_f (by decide) (wp_f (by decide) (wp_f (by decide) (wp_f (by decide) (wp_f (by decide) (wp_f (by decide) (wp_f (by decide) (wp_gd zm (wp_bi (hE T d' lo m _ c s (T.1 52 m) r4 (by omega) w2.1 (by omega) hC hP.2.1 (by omega) (by omega) hP.2.2.1 hc') ?_)))))))))))
    intro r l T1 h1
    refine wp_gd zm (wp_st ?_)
    have sp1 : SP T T1 := SP.of (by rw [h1.1]; exact chk_fe (X := X) ta 0 0 (er T))
    have e1 : er (sI T1 60 m r) = (chk X ta 0 0 (er T)).2.2.2 := by rw [er_a rfl, h1.1]
    refine wp_some ⟨e1, ?_, fun q => ?_⟩
    · exact (h1.2.1.up (by omega) (by omega) (by omega) (by omega)).tr (Fm.t60 (by omega) (by omega)) sp1
    · have q1 : T1.1 7 0 = 0 := q
      have h2 := h1.2.2 q1
      rw [AnS_n]
      show ∃ m', nI m = nI m' ∧ lo ≤ m' ∧ hi = m' + 1 ∧ AnE X (sI T1 60 m r) ta lo m' ((sI T1 60 m r).1 52 m') (chk X ta 0 0 (er T)).1 (chk X ta 0 0 (er T)).2.1 (chk X ta 0 0 (er T)).2.2.1 ∧ (sI T1 60 m r).1 60 m' = (chk X ta 0 0 (er T)).1
      refine ⟨m, rfl, r2, r3, ?_, by rw [sI_v]; exact h2.1⟩
      rw [sI_ne (by omega), sp1.1 52 (by omega) rfl]
      exact AnE.kp (b := c) (by omega) ta false _ c lo m _ _ _ _ (Nat.le_refl _) w2.1 (Kp.t60 (by omega)) h2.2
theorem isZ_dp (h : isZ ta = true) : dpT ta = 0 := by
  unfold isZ at h
  split at h
  · rfl
  · exact absurd h (by decide)
theorem t_23 (hx : PI X) (hX : xn X ≤ 4000) (hnf : 8300 ≤ nf) (hE : CkE nf X ta) : CkT nf X it (tD 23 i e ta tb) := by
  intro T d lo hi a b v g v' g' n s x hR hhi hw hbx hP hN hs hd hc
  obtain ⟨d', rfl⟩ : ∃ z, d = z + 1 := ⟨d - 1, by omega⟩
  rw [Ws_n] at hw
  obtain ⟨w1, rfl, rfl, w7⟩ : i = a ∧ v' = v ∧ g' = g ∧ (if isZ ta = true then a + 1 < b else ∃ c, (Wf X ta false (a + 1) c ∧ dpT ta ≤ 40) ∧ c < b) := hw
  rw [RepS_n] at hR
  obtain ⟨rfl, r2, r3, r4, r9⟩ : x = nI lo ∧ lo < hi ∧ T.1 50 lo = 23 ∧ T.1 51 lo = nI (xP X i) ∧ RepM X T ta (lo + 1) hi (T.1 52 lo) := hR
  have zm : inb (nI lo) 8200 := nin (by omega) (by omega)
  have cm : (nI lo).toNatClampNeg = lo := nc (by omega)
  have hC := hP.1.1
  have hc' : cn (rtC X ta i it (er T)).2 < 6000 := hc
  have hcT : cn T < 6000 := (FS.rt (X := X) (ta := ta) (i := i) (it := it) (T := er T)).lt hC.1 hc'
  obtain ⟨c, hwf, hdp⟩ : ∃ c, (¬ isZ ta = true → Wf X ta false (i + 1) c ∧ c < b) ∧ dpT ta ≤ 40 := by
    by_cases z : isZ ta = true
    · exact ⟨0, fun q => absurd z q, by rw [isZ_dp z]; omega⟩
    · rw [if_neg z, ← w1] at w7
      obtain ⟨c, h1, h2⟩ := w7
      exact ⟨c, fun _ => ⟨h1.1, h2⟩, h1.2⟩
  rw [e_Model_checkStep nf d']
  unfold rb_Model_checkStep
  refine wp_gd zm ?_
  rw [cm, r3]
  refine wp_f (by decide) (wp_f (by decide) (wp_f (by decide) (wp_t rfl (wp_bi (x_rt hx hX hnf hE r2 hhi r4 r9 hwf w1.symm hbx hC hP.2.2.2.2.1 hP.2.2.2.2.2.1 hP.2.1 hs (by omega) hP.2.2.1 hP.2.2.2.2.2.2 hcT hc') ?_))))
  intro r l T1 h1
  have sw : SPw T T1 := SPw.of (by rw [h1.1]; exact FS.rt)
  refine wp_some ⟨h1.1, h1.2.1, fun q => ?_⟩
  rw [AnS_n]
  show nI lo = nI lo ∧ lo < hi ∧ (if isZ ta = true then T1.1 52 lo = -1 else AnE X T1 ta (lo + 1) hi (T1.1 52 lo) (chk X ta 0 0 (er T)).1 (chk X ta 0 0 (er T)).2.1 (chk X ta 0 0 (er T)).2.2.1)
  rw [sw.1 52 (by omega) (by omega) rfl]
  refine ⟨rfl, r2, ?_⟩
  by_cases z : isZ ta = true
  · rw [if_pos z]; exact (isZ_M z r9).1
  · rw [if_neg z]; exact h1.2.2 q z
theorem t_27 (hnf : 8300 ≤ nf) : CkT nf X it (tD 27 i e ta tb) := by
  intro T d lo hi a b v g v' g' n s x hR hhi hw hbx hP hN hs hd hc
  obtain ⟨d', rfl⟩ : ∃ z, d = z + 5 := ⟨d - 5, by omega⟩
  rw [Ws_n] at hw
  obtain ⟨w1, rfl, rfl, w7⟩ : i = a ∧ v' = v ∧ g' = g ∧ a + 2 < b := hw
  rw [RepS_n] at hR
  obtain ⟨rfl, r2, r3, r4, u, r5, r6⟩ : x = nI lo ∧ hi = lo + 1 ∧ T.1 50 lo = 27 ∧ T.1 51 lo = nI (xP X i) ∧ ∃ u, T.1 58 lo = nI u ∧ RepU X T u (i + 1) 1 := hR
  have zm : inb (nI lo) 8200 := nin (by omega) (by omega)
  have cm : (nI lo).toNatClampNeg = lo := nc (by omega)
  have hC := hP.1.1
  have h84 : T.1 84 0 = nI n := hP.1.2.2.2.2.2.2.1
  have ean : arn T = n := by unfold arn; rw [h84]; exact nc (by omega)
  rw [e_Model_checkStep nf (d' + 4)]
  unfold rb_Model_checkStep
  refine wp_gd zm ?_
  rw [cm, r3]
  refine wp_f (by decide) (wp_f (by decide) (wp_f (by decide) (wp_f (by decide) (wp_f (by decide) (wp_f (by decide) (wp_f (by decide) (wp_t rfl (wp_bi (x_cs (hi := hi) (a := a) (b := b) hnf (by omega) hhi r4 r5 r6 hP.2.2.1 hC (by rw [ean]; exact h84) (by omega) w1.symm (by omega)) ?_))))))))
  intro r l T1 h1
  have sw : SPw T T1 := SPw.of (by rw [h1.1]; exact FS.cs)
  refine wp_some ⟨h1.1, h1.2.1, fun q => ?_⟩
  rw [AnS_n]
  show nI lo = nI lo ∧ hi = lo + 1 ∧ ∃ u, T1.1 58 lo = nI u ∧ RepU X T1 u (i + 1) 1 ∧ T1.1 48 u = srR X (er T) (i + 1)
  rw [sw.1 58 (by omega) (by omega) rfl]
  exact ⟨rfl, r2, u, r5, r6.sw sw, h1.2.2 q⟩
theorem t_29 (hx : PI X) (hX : xn X ≤ 4000) (hnf : 8300 ≤ nf) (hA : CkE nf X ta) (hB : CkE nf X tb) : CkT nf X it (tD 29 i e ta tb) := by
  intro T d lo hi a b v g v' g' n s x hR hhi hw hbx hP hN hs hd hc
  obtain ⟨d', rfl⟩ : ∃ z, d = z + 1 := ⟨d - 1, by omega⟩
  rw [Ws_n] at hw
  obtain ⟨w1, rfl, rfl, c, c2, w2, w3, w4⟩ : i = a ∧ v' = v ∧ g' = g ∧ ∃ c c2, (Wf X ta false a c ∧ dpT ta ≤ 40) ∧ (Wf X tb false (c + 1) c2 ∧ dpT tb ≤ 40) ∧ c2 < b := hw
  rw [RepS_n] at hR
  obtain ⟨m, rfl, r2, r3, r4, r5, r6, r7⟩ : ∃ m, x = nI m ∧ lo ≤ m ∧ m < hi ∧ RepM X T ta lo m (T.1 52 m) ∧ RepM X T tb (m + 1) hi (T.1 53 m) ∧ T.1 50 m = 29 ∧ T.1 51 m = nI (xP X i) := hR
  have zm : inb (nI m) 8200 := nin (by omega) (by omega)
  have cm : (nI m).toNatClampNeg = m := nc (by omega)
  have hC := hP.1.1
  have hc' : cn (seC X ta tb (er T)) < 6000 := hc
  obtain ⟨y, y1, y2, y3, _, _⟩ := RepM_nd ta _ _ _ _ _ r4 w2.1
  rw [e_Model_checkStep nf d']
  unfold rb_Model_checkStep
  refine wp_gd zm ?_
  rw [cm, r6]
  refine wp_f (by decide) (wp_f (by decide) (wp_f (by decide) (wp_f (by decide) (wp_f (by decide) (wp_f (by decide) (wp_f (by decide) (wp_f (by decide) (wp_f (by decide) (wp_t rfl (wp_bi (x_se hx hX hnf hA hB r2 r3 hhi r4 rfl r5 rfl w2.1 w3.1 w4 hbx hC hP.2.1 hs (by omega) (by omega) hP.2.2.1 hP.2.2.2.2.2.2 hc') ?_))))))))))
  intro r l T1 h1
  have sw : SPw T T1 := SPw.of (by rw [h1.1]; exact FS.se)
  refine wp_some ⟨h1.1, h1.2.1, fun q => ?_⟩
  have h2 := h1.2.2 q
  unfold SeQ at h2
  rw [y1, nc (by omega : y < 100000)] at h2
  rw [AnS_n]
  show ∃ m' y', nI m = nI m' ∧ m' < hi ∧ T1.1 52 m' = nI y' ∧ lo ≤ y' ∧ y' < m' ∧ AnE X T1 tb (m' + 1) hi (T1.1 53 m') (chk X tb 0 0 (er T)).1 (chk X tb 0 0 (er T)).2.1 (chk X tb 0 0 (er T)).2.2.1 ∧ (if tkd X ta = 4 then T1.1 61 y' = tf (chk X tb 0 0 (er T)).2.2.2 79 (fd (isVa (chk X tb 0 0 (er T)).2.2.2 (xN X (lfI ta))) (vn (chk X tb 0 0 (er T)).2.2.2)) ∧ T1.1 60 y' = tf (chk X tb 0 0 (er T)).2.2.2 80 (fd (isVa (chk X tb 0 0 (er T)).2.2.2 (xN X (lfI ta))) (vn (chk X tb 0 0 (er T)).2.2.2)) else AnE X T1 ta lo m' (T1.1 52 m') (chk X ta 0 0 (chk X tb 0 0 (er T)).2.2.2).1 (chk X ta 0 0 (chk X tb 0 0 (er T)).2.2.2).2.1 (chk X ta 0 0 (chk X tb 0 0 (er T)).2.2.2).2.2.1)
  refine ⟨m, y, rfl, r3, ?_, y2, y3, ?_, ?_⟩
  · rw [sw.1 52 (by omega) (by omega) rfl]; exact y1
  · rw [sw.1 53 (by omega) (by omega) rfl]; exact h2.1
  · rw [sw.1 52 (by omega) (by omega) rfl, y1]; exact h2.2
theorem t_20 (hx : PI X) (hX : xn X ≤ 4000) (hPl : ∀ q, q < xn X → xP X q < 100000) (hnf : 8300 ≤ nf) (hE : CkE nf X ta) : CkT nf X it (tD 20 i e ta tb) := by
  intro T d lo hi a b v g v' g' n s x hR hhi hw hbx hP hN hs hd hc
  obtain ⟨d', rfl⟩ : ∃ z, d = z + 1 := ⟨d - 1, by omega⟩
  rw [Ws_n] at hw
  obtain ⟨w1, rfl, w3, rfl, rfl, w6, w7⟩ : i = a ∧ e = v ∧ v < 20 ∧ v' = v + 1 ∧ g' = g ∧ tyW X 6 (i + 3) ∧ (if isZ ta = true then tyE X 6 (i + 3) < b else ∃ c, (Wf X ta false (tyE X 6 (i + 3) + 1) c ∧ dpT ta ≤ 40) ∧ c < b) := hw
  rw [RepS_n] at hR
  obtain ⟨rfl, r2, r3, r4, r5, r6, ⟨w, r7, r8⟩, r9⟩ : x = nI lo ∧ lo < hi ∧ T.1 50 lo = 20 ∧ T.1 51 lo = nI (xP X i) ∧ nmd X T lo (i + 1) ∧ T.1 61 lo = nI e ∧ (∃ w, T.1 53 lo = nI w ∧ RepW X T 6 w (i + 3)) ∧ RepM X T ta (lo + 1) hi (T.1 52 lo) := hR
  have zm : inb (nI lo) 8200 := nin (by omega) (by omega)
  have cm : (nI lo).toNatClampNeg = lo := nc (by omega)
  have hC := hP.1.1
  have hc' : cn (vaC X ta i e (er T)).2 < 6000 := hc
  have hvn : vn T ≤ e := hP.1.2.1
  obtain ⟨c, hwz, hwf, hdp⟩ : ∃ c, (isZ ta = true → tyE X 6 (i + 3) < b) ∧ (¬ isZ ta = true → Wf X ta false (tyE X 6 (i + 3) + 1) c ∧ c < b) ∧ (¬ isZ ta = true → dpT ta ≤ 40) := by
    by_cases z : isZ ta = true
    · rw [if_pos z] at w7
      exact ⟨0, fun _ => w7, fun q => absurd z q, fun q => absurd z q⟩
    · rw [if_neg z] at w7
      obtain ⟨c, h1, h2⟩ := w7
      exact ⟨c, fun q => absurd q z, fun _ => ⟨h1.1, h2⟩, fun _ => h1.2⟩
  have hdp2 : dpT ta ≤ 40 := by
    by_cases z : isZ ta = true
    · rw [isZ_dp z]; omega
    · exact hdp z
  rw [e_Model_checkStep nf d']
  unfold rb_Model_checkStep
  refine wp_gd zm ?_
  rw [cm, r3]
  refine wp_t rfl (wp_bi (x_va hx hX hPl hnf hE r2 hhi r5 r6 r7 r8 r9 w6 hwz hwf w1.symm hbx hC hvn w3 hP.2.1 hs (by omega) hP.2.2.1 hP.2.2.2.1 hP.2.2.2.2.2.2 hc') ?_)
  intro r l T1 h1
  have sw : SPw T T1 := SPw.of (by rw [h1.1]; exact FS.va)
  refine wp_some ⟨h1.1, h1.2.1.up (by omega) (by omega) (by omega) (by omega), fun q => ?_⟩
  rw [AnS_n]
  show nI lo = nI lo ∧ lo < hi ∧ T1.1 61 lo = nI e ∧ (if isZ ta = true then T1.1 52 lo = -1 else AnE X T1 ta (lo + 1) hi (T1.1 52 lo) (vaR X ta (vaM X (er T) i).2).1 (vaR X ta (vaM X (er T) i).2).2.1 (vaR X ta (vaM X (er T) i).2).2.2.1)
  rw [sw.1 52 (by omega) (by omega) rfl]
  refine ⟨rfl, r2, ?_, ?_⟩
  · rw [(h1.2.1.1 lo (by omega)).2]; exact r6
  · by_cases z : isZ ta = true
    · rw [if_pos z]; exact (isZ_M z r9).1
    · rw [if_neg z]; exact h1.2.2 q z
end XT
