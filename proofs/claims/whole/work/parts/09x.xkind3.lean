/-! row and & as nodes; what follows a PRIMARY, operators -/
section KG
variable {nf d : Nat} {T T' T1 S : gSt} {X : Lx} {m n p u i k e l lo hi a b s f q v f0 c : Nat} {x y r w all z rg : Int32} {t ta tb : Tr} {nm : Int64} {R : ChR}
theorem er_niT {pl : Int32} : er (niT T r pl) = niT (er T) r pl := by
  unfold niT
  show _ = if T.1 7 0 = 0 ∧ ¬ r = 0 then _ else _
  by_cases h : T.1 7 0 = 0 ∧ ¬ r = 0
  · rw [if_pos h, if_pos h, er_fl]
  · rw [if_neg h, if_neg h]
theorem FE.ni {pl : Int32} : FE T (niT T r pl) := by
  unfold niT
  split
  · exact FE.fl (by decide)
  · exact FE.rf
theorem nt_ni {pl : Int32} : ∀ k, anF k = true → (niT T r pl).1 k = T.1 k := fun k hk => by
  unfold niT
  split
  · exact nt_fl k hk
  · rfl
theorem cn_ni {pl : Int32} : cn (niT T r pl) = cn T := by
  unfold niT
  split
  · exact cn_fl
  · rfl
theorem Ck.ni {pl : Int32} (h : Ck T) (hc : cn T < 6000) : Ck (niT T r pl) := by
  unfold niT
  split
  · exact h.fl (by decide) hc
  · exact h
theorem niT_eq {pl r1 : Int32} (h : T.1 7 0 = 0 → r1 = r) : niT T r1 pl = niT T r pl := by
  by_cases c : T.1 7 0 = 0
  · rw [h c]
  · unfold niT
    rw [if_neg (fun q => c q.1), if_neg (fun q => c q.1)]
theorem kd_row (hx : PI X) (hnf : 8300 ≤ nf) (hE : CkE nf X ta) (hF : CkE nf X tb) (hk : xK X i = 30) (hR : RepM X T (tD 8 i e ta tb) lo hi x) (hhi : hi ≤ 8200) (hw : Wf X (tD 8 i e ta tb) false a b) (hbx : b ≤ xn X) (hX : xn X ≤ 4000) (hC : Ck (er T)) (hs : T.1 94 0 = nI s) (hss : s + (hi - lo) ≤ 8200) (hd : 6 * dpT ta + 25 ≤ d) (hd2 : 6 * dpT tb + 25 ≤ d) (hUU : nU T ≤ 4000) (h0 : T.1 7 0 = 0) (hc : cn (chk X (tD 8 i e ta tb) 0 0 (er T)).2.2.2 < 6000) : wp (RR nf d 87 T [nI lo] []) (fun r _ T' => KR X (tD 8 i e ta tb) (chk X (tD 8 i e ta tb) 0 0 (er T)) T lo hi a b lo r T') := by
  rw [RepM_n] at hR
  unfold RpN at hR
  simp only [if_neg (show ¬ (8 = 1) by omega), if_neg (show ¬ (8 = 2) by omega), if_neg (show ¬ (8 = 3) by omega), if_neg (show ¬ (8 = 4) by omega), if_neg (show ¬ (8 = 5) by omega), if_neg (show ¬ (8 = 6) by omega), if_neg (show ¬ (8 = 7) by omega), if_pos (rfl : 8 = 8), if_neg (show ¬ xK X i = 29 by omega), if_pos hk] at hR
  obtain ⟨z, r1, r2, r3, r4, r5, ⟨u, r7, r8⟩, cc, y, r9, r10, r6, r11, r12⟩ := hR
  rw [Wf_n] at hw
  unfold WfN at hw
  simp only [if_neg (show ¬ (false = true) by decide), if_neg (show ¬ (8 = 1) by omega), if_neg (show ¬ (8 = 2) by omega), if_neg (show ¬ (8 = 3) by omega), if_neg (show ¬ (8 = 4) by omega), if_neg (show ¬ (8 = 5) by omega), if_neg (show ¬ (8 = 6) by omega), if_neg (show ¬ (8 = 7) by omega), if_pos (rfl : 8 = 8), if_neg (show ¬ xK X i = 29 by omega), if_pos hk] at hw
  obtain ⟨w1, c, c2, w2, w3, w4⟩ := hw
  have le := Wf_le2 w2
  have le2 := Wf_le2 w3
  have eN : chk X (tD 8 i e ta tb) 0 0 (er T) = rwC X (chk X ta) (chk X tb) ta tb i (er T) := by
    rw [chk_n, if_pos (show (er T).1 7 0 = 0 from h0)]
    unfold chN
    simp only [if_neg (show ¬ (8 = 1) by omega), if_neg (show ¬ (8 = 2) by omega), if_neg (show ¬ (8 = 3) by omega), if_neg (show ¬ (8 = 4) by omega), if_neg (show ¬ (8 = 5) by omega), if_neg (show ¬ (8 = 6) by omega), if_neg (show ¬ (8 = 7) by omega), if_pos (rfl : 8 = 8), if_neg (show ¬ xK X i = 29 by omega), if_pos hk, if_true]
  rw [eN] at hc ⊢
  obtain ⟨my, y1, y2, y3, y4, y5⟩ := RepM_nd ta _ _ _ _ z r6 w2
  obtain ⟨mz, z1, z2, z3, z4, z5⟩ := RepM_nd tb _ _ _ _ y r11 w3
  have hus : usN X T u (i + 1) := r8.us (n := 0) (by omega)
  have hu4 : u < 4000 := by have := r8.1; omega
  have hRg : Rg T := hC.2.2.1.1
  have eL := us_L hus
  have eR := us_R hus
  have spL := lvS_sp hus
  have fmL : Fm X T (lvS T u) lo hi a b := Fm.lv (q := i + 1) (by omega) (by omega) hus.2
  have hcT' : cn (er T) < 6000 := (fe_rw (X := X) (ta := ta) (tb := tb) (i := i) (T := er T) (chk_fe (X := X) ta) (chk_fe (X := X) tb)).lt hC.1 hc
  have hcT : cn T < 6000 := hcT'
  have hCL : Ck (er (lvS T u)) := by rw [eL]; exact hC.sl hcT
  have hcL : cn (lvS T u) < 6000 := by rw [← er_cn, eL, cn_sl]; exact hcT
  have uL := lvS_use (T := T) (p := u)
  have o60 : ∀ k, k ≠ 7 → k ≠ 8 → k ≠ 48 → (lvS T u).1 k = T.1 k := fun k a b c => lvS_o a b c
  rw [eR] at uL
  unfold rwC at hc ⊢
  dsimp only at hc ⊢
  rw [← eL] at hc ⊢
  obtain ⟨d', rfl⟩ : ∃ g, d = g + 5 := ⟨d - 5, by omega⟩
  refine kd_f (d := d' + 4) (g := 92) (by omega) (Or.inr (Or.inr (Or.inr (Or.inr (Or.inr (Or.inl ⟨r5, rfl⟩)))))) ?_
  -- the room, where the region is live
  have room : (lvS T u).1 7 0 = 0 → cn (chk X ta 0 0 (er (lvS T u))).2.2.2 < 6000 ∧ ∀ T1, er T1 = (chk X ta 0 0 (er (lvS T u))).2.2.2 → cn (chk X tb 0 0 (er (niT T1 (chk X ta 0 0 (er (lvS T u))).1 (plT X ta)))).2.2.2 < 6000 ∧ er (niT T1 (chk X ta 0 0 (er (lvS T u))).1 (plT X ta)) = (if (chk X ta 0 0 (er (lvS T u))).2.2.2.1 7 0 = 0 ∧ ¬ (chk X ta 0 0 (er (lvS T u))).1 = 0 then flT (chk X ta 0 0 (er (lvS T u))).2.2.2 4 (plT X ta) else (chk X ta 0 0 (er (lvS T u))).2.2.2) := by
    intro k0
    have k0' : (er (lvS T u)).1 7 0 = 0 := k0
    rw [if_pos k0'] at hc
    have ga := (chk_fe (X := X) ta 0 0 (er (lvS T u))).tg hCL.1
    have gn : Tg (niT (chk X ta 0 0 (er (lvS T u))).2.2.2 (chk X ta 0 0 (er (lvS T u))).1 (plT X ta)) := FE.ni.tg ga
    have hc2 := lt_md (show Tg _ from gn) hc
    refine ⟨?_, fun T1 hT1 => ?_⟩
    · have := (chk_fe (X := X) tb 0 0 (niT (chk X ta 0 0 (er (lvS T u))).2.2.2 (chk X ta 0 0 (er (lvS T u))).1 (plT X ta))).lt gn hc2
      rw [cn_ni] at this
      exact this
    · rw [er_niT, hT1]
      exact ⟨hc2, rfl⟩
  refine wp_mono (x_row (d := d') (P := fun r T' => ChQ X ta (lvS T u) (lo + 1) cc (i + 3) c z r T') (P2 := fun _ T1 r T' => ChQ X tb (niT T1 (chk X ta 0 0 (er (lvS T u))).1 (plT X ta)) cc hi (c + 1) c2 y r T') (n := my) (n2 := mz) (u := u) (pl := plT X ta) (pl2 := plT X tb) (by omega) (by omega) (by omega) (by omega) hu4 r5 (by rw [← y1]; exact r4) (by rw [← z1]; exact r12) r7 y4 z4 hRg spL (fun k0 => by
      rw [← y1]
      exact hE (lvS T u) (d' + 2) (lo + 1) cc _ c s z (RepM.kp r6 spL (fun j _ _ => by rw [o60 61 (by omega) (by omega) (by omega)])) (by omega) w2 (by omega) hCL (by rw [o60 94 (by omega) (by omega) (by omega)]; exact hs) (by omega) (by omega) (by rw [sp_nU spL]; exact hUU) (room k0).1) (fun r T' h => SP.of (by rw [h.1]; exact chk_fe ta 0 0 _)) (fun r1 T1 k0 h => ?_) (fun k0 r1 T1 h r T' h2 => ?_) (fun r1 T1 h => ?_) ⟨SP.rf, hCL, hcL⟩) ?_
  · have rm := room k0
    have iv := ch_bh w2 (by omega) hCL rm.1 h.1
    have e1 : niT T1 r1 (plT X ta) = niT T1 (chk X ta 0 0 (er (lvS T u))).1 (plT X ta) := niT_eq (fun q => (h.2.2 q).1)
    rw [e1, ← z1]
    have spn : SP (lvS T u) (niT T1 (chk X ta 0 0 (er (lvS T u))).1 (plT X ta)) := iv.1.1.tr (SP.fe FE.ni)
    have hCn : Ck (er (niT T1 (chk X ta 0 0 (er (lvS T u))).1 (plT X ta))) := by rw [er_niT]; exact iv.1.2.1.ni iv.1.2.2
    refine hF _ (d' + 3) cc hi _ c2 s y ?_ hhi w3 (by omega) hCn ?_ (by omega) (by omega) (by rw [sp_nU (spL.tr spn)]; exact hUU) (rm.2 T1 h.1).1
    · refine RepM.kp r11 (spL.tr spn) (fun j j1 j2 => ?_)
      rw [nt_ni 61 rfl, (h.2.1.1 j (by omega)).2, o60 61 (by omega) (by omega) (by omega)]
    · rw [nt_ni 94 rfl, h.2.1.2.2.2, o60 94 (by omega) (by omega) (by omega)]
      exact hs
  · have rm := room k0
    have iv := ch_bh w2 (by omega) hCL rm.1 h.1
    have e1 : niT T1 r1 (plT X ta) = niT T1 (chk X ta 0 0 (er (lvS T u))).1 (plT X ta) := niT_eq (fun q => (h.2.2 q).1)
    rw [e1]
    have hCn : Ck (er (niT T1 (chk X ta 0 0 (er (lvS T u))).1 (plT X ta))) := by rw [er_niT]; exact iv.1.2.1.ni iv.1.2.2
    exact (ch_bh w3 (by omega) hCn (rm.2 T1 h.1).1 h2.1).1
  · have e1 : niT T1 r1 (plT X ta) = niT T1 (chk X ta 0 0 (er (lvS T u))).1 (plT X ta) := niT_eq (fun q => (h.2.2 q).1)
    rw [e1]
    exact (spL.tr (SP.of (by rw [h.1]; exact chk_fe ta 0 0 _))).tr (SP.fe FE.ni)
  · rintro r _ T' (⟨k0, rfl⟩ | ⟨k0, ra, T1, h, rb, T2, h2, q4, q5⟩)
    · have k0' : ¬ (er (lvS T u)).1 7 0 = 0 := k0
      rw [if_neg k0']
      exact ⟨rfl, fmL, fun q => absurd q k0⟩
    have k0' : (er (lvS T u)).1 7 0 = 0 := k0
    rw [if_pos k0'] at hc ⊢
    have rm := room k0
    have iv := ch_bh w2 (by omega) hCL rm.1 h.1
    obtain ⟨rm2, rm3⟩ := rm.2 T1 h.1
    have hCn : Ck (er (niT T1 (chk X ta 0 0 (er (lvS T u))).1 (plT X ta))) := by rw [er_niT]; exact iv.1.2.1.ni iv.1.2.2
    have iv2 := ch_bh w3 (by omega) hCn rm2 h2.1
    rw [← rm3] at hc ⊢
    have fm1 : Fm X T T1 lo hi a b := fmL.tr (h.2.1.up (by omega) (by omega) (by omega) (by omega)) spL
    have sp1 : SP T T1 := spL.tr iv.1.1
    have fmn : Fm X T (niT T1 (chk X ta 0 0 (er (lvS T u))).1 (plT X ta)) lo hi a b := fm1.tr (Fm.nt nt_ni) sp1
    have spn1 : SP T1 (niT T1 (chk X ta 0 0 (er (lvS T u))).1 (plT X ta)) := SP.fe FE.ni
    have spn : SP T (niT T1 (chk X ta 0 0 (er (lvS T u))).1 (plT X ta)) := sp1.tr spn1
    have fm2 : Fm X T T2 lo hi a b := fmn.tr (h2.2.1.up (by omega) (by omega) (by omega) (by omega)) spn
    have sp2 : SP T T2 := spn.tr iv2.1.1
    rw [eR] at q5
    have fin := md_fin (X := X) (ta := tb) (S := er (niT T1 (chk X ta 0 0 (er (lvS T u))).1 (plT X ta))) (js := (chk X ta 0 0 (er (lvS T u))).2.2.1) (r := r) (kd := 3) (rg := srR X (er T) (i + 1)) (pl := plT X tb) (R := chk X tb 0 0 (er (niT T1 (chk X ta 0 0 (er (lvS T u))).1 (plT X ta)))) (Or.inr rfl) h2.1 q4 (fun hq => by
      have := q5 hq
      rw [(h2.2.2 hq).1] at this
      exact this) rfl rfl
    obtain ⟨v1, v2, v3, v4⟩ := fin
    refine ⟨v1, fm2.tr (Fm.nt v2) sp2, fun q => ?_⟩
    obtain ⟨v5, v6, v7, v8⟩ := v4 q
    refine ⟨v6, ?_⟩
    have an2 := (h2.2.2 v5).2
    have n0 : (niT T1 (chk X ta 0 0 (er (lvS T u))).1 (plT X ta)).1 7 0 = 0 := by
      by_cases g : (niT T1 (chk X ta 0 0 (er (lvS T u))).1 (plT X ta)).1 7 0 = 0
      · exact g
      · exfalso
        have := (chk_fe (X := X) tb 0 0 (er (niT T1 (chk X ta 0 0 (er (lvS T u))).1 (plT X ta)))).2.2.2 g
        rw [← h2.1] at this
        exact this v5
    have t10 : T1.1 7 0 = 0 := by
      by_cases g : T1.1 7 0 = 0
      · exact g
      · exact absurd n0 (FE.ni.2.2.2 g)
    have an1 := (h.2.2 t10).2
    have kp12 : Kp X T1 T2 (lo + 1) cc (i + 3) c := (Kp.nt spn1 nt_ni).tr (Kp.fm hx iv2.1.1 h2.2.1 (by omega) (by omega) (by omega) (by omega))
    have u48 : T2.1 48 u = srR X (er T) (i + 1) := by
      have s1 : T1.1 48 u = srR X (er T) (i + 1) := by
        rcases h.2.1.2.1 u with h' | ⟨q', h1, h2, h3⟩
        · rw [h']; exact uL k0
        · exfalso
          rw [spL.1 47 (by omega) rfl, hus.2] at h3
          have := hx (i + 1) q' (by omega) (by omega) h3
          omega
      rcases h2.2.1.2.1 u with h' | ⟨q', h1, h2, h3⟩
      · rw [h', nt_ni 48 rfl]; exact s1
      · exfalso
        rw [spn.1 47 (by omega) rfl, hus.2] at h3
        have := hx (i + 1) q' (by omega) (by omega) h3
        omega
    rw [AnE_n]
    unfold AnN
    simp only [if_neg (show ¬ (8 = 1) by omega), if_neg (show ¬ (8 = 2) by omega), if_neg (show ¬ (8 = 3) by omega), if_neg (show ¬ (8 = 4) by omega), if_neg (show ¬ (8 = 5) by omega), if_neg (show ¬ (8 = 6) by omega), if_neg (show ¬ (8 = 7) by omega), if_pos (rfl : 8 = 8), if_neg (show ¬ xK X i = 29 by omega), if_pos hk]
    have spE : SP T T' := sp2.tr v3
    have o : ∀ (y : Int32) g m, 50 ≤ g → g ≤ 59 → (sI T' 60 lo y).1 g m = T.1 g m := fun y g m g1 g2 => by rw [sI_ne (by omega), spE.1 g (by omega) (by unfold anF; simp; omega)]
    have kE : ∀ (y : Int32) l h a b, lo < l → Kp X T2 (sI T' 60 lo y) l h a b := fun y l h a b hl => (Kp.nt v3 v2).tr (Kp.t60 (by omega))
    refine ⟨z, _, _, _, trivial, r2, by rw [o _ 52 lo (by omega) (by omega)]; exact r4, by rw [sI_v], v7, by rw [o _ 50 lo (by omega) (by omega)]; exact r5, u, cc, y, _, _, _, by rw [o _ 58 lo (by omega) (by omega)]; exact r7, RepU.sp (spE.tr (SP.an rfl)) r8, r9, r10, AnE.kp (b := c) (by omega) ta false _ c (lo + 1) cc _ _ _ _ (Nat.le_refl _) w2 (kp12.tr (kE _ _ _ _ _ (by omega))) an1, AnE.kp (b := c2) (by omega) tb false _ c2 cc hi _ _ _ _ (Nat.le_refl _) w3 (kE _ _ _ _ _ (by omega)) an2, by rw [o _ 53 lo (by omega) (by omega)]; exact r12, ?_⟩
    rw [v8, sI_ne (g' := 48) (by omega), v2 48 rfl, u48]
    rfl
end KG
