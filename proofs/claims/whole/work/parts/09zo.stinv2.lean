/-! STEPS keep what holds -/
abbrev IvS (A : StF) (v g v' g' N : Nat) : Prop := ∀ (p q : Int32) (j n : Nat) (T : gSt), n ≤ N → SI T v g n → cn (A p q j T) < 6000 → (A p q j T).1 7 0 = 0 → SK T (A p q j T) v' g' n
section SIW
variable {T T' T'' T1 T2 : gSt} {X : Lx} {k i j e it v g n v' g' v1 g1 N lo hi b c a : Nat} {p q s : Int32} {nm : Int64} {A B : StF} {ta tb : Tr}
theorem si_ch (hw : Wf X ta false lo hi) (hb : hi < 100000) (h : SI T v g n) (hc : cn (chk X ta 0 0 T).2.2.2 < 6000) : SK T (chk X ta 0 0 T).2.2.2 v g n ∧ ((chk X ta 0 0 T).2.2.2.1 7 0 = 0 → tR (chk X ta 0 0 T).2.2.2 (chk X ta 0 0 T).1) := by
  have := iv_ex0 (chk_inv ta) ⟨hw, hb⟩ h.1 hc
  exact ⟨h.fe (chk_fe (X := X) ta 0 0 T) this.1, fun q => (this.2 q).1⟩
theorem si_cd (hw : Wf X ta false lo hi) (hb : hi < 100000) (h : SI T v g n) (hc : cn (cdC X ta T) < 6000) : SK T (cdC X ta T) v g n := by
  have e : cn (cdC X ta T) = cn (chk X ta 0 0 T).2.2.2 := by
    unfold cdC cnT
    split
    · exact cn_fl
    · rfl
  rw [e] at hc
  have h1 := (si_ch hw hb h hc).1
  unfold cdC cnT
  split
  · exact h1.tr (h1.1.fe (FE.fl (by decide)) (h1.1.1.fl (by decide) hc))
  · exact h1
theorem si_ni (hw : Wf X ta false lo hi) (hb : hi < 100000) (h : SI T v g n) (hc : cn (niT (chk X ta 0 0 T).2.2.2 (chk X ta 0 0 T).1 (plT X ta)) < 6000) : SK T (niT (chk X ta 0 0 T).2.2.2 (chk X ta 0 0 T).1 (plT X ta)) v g n := by
  have hc1 := FE.ni.lt ((chk_fe (X := X) ta 0 0 T).tg h.1.1) hc
  have h1 := (si_ch hw hb h hc1).1
  exact h1.tr (h1.1.fe FE.ni (h1.1.1.ni hc1))
theorem si_sp (h : SI T v g n) : SK T (spS T) v g n := h.fo FO.sp (Or.inl sp_83)
theorem si_rt (hw : ¬ isZ ta = true → Wf X ta false lo hi) (hb : hi < 100000) (h : SI T v g n) (hc : cn (rtC X ta i it T).2 < 6000) (h0 : (rtC X ta i it T).2.1 7 0 = 0) : SK T (rtC X ta i it T).2 v g n := by
  unfold rtC at hc h0 ⊢
  by_cases c : (rtO T (isZ ta) it (nI (xP X i))).1 7 0 = 0
  · rw [if_pos c] at hc h0 ⊢
    by_cases z : isZ ta = true
    · rw [if_pos z] at hc h0 ⊢
      exact si_sp h
    · rw [if_neg z] at hc h0 ⊢
      dsimp only at hc h0 ⊢
      rw [cn_sp] at hc
      have hc1 := FE.ft.lt ((chk_fe (X := X) ta 0 0 T).tg h.1.1) hc
      have h1 := (si_ch (hw z) hb h hc1).1
      have h2 := h1.tr (h1.1.fe FE.ft (h1.1.1.ft hc))
      exact h2.tr (si_sp h2.1)
  · rw [if_neg c] at h0
    exact absurd h0 c
theorem si_cs (h : SI T v g n) (hc : cn (csC X i T) < 6000) (h0 : (csC X i T).1 7 0 = 0) : SK T (csC X i T) v g n := by
  have hc1 : cn T < 6000 := (FS.cs (X := X) (i := i) (T := T)).lt h.1.1 hc
  have h1 : SK T (srS X T (i + 1)) v g n := h.fe FE.sr (h.1.sr hc1)
  unfold csC at h0 ⊢
  generalize srS X T (i + 1) = S at *
  by_cases c : S.1 7 0 = 0
  · rw [if_pos c] at h0 ⊢
    by_cases c2 : srR X T (i + 1) < 4 ∨ isLv S (srR X T (i + 1)) = 0
    · rw [if_pos c2] at h0
      exact absurd h0 (flT_bad (by decide))
    · rw [if_neg c2] at h0 ⊢
      refine h1.tr (h1.1.fo ((FO.ar _ _).tr FO.dl) ?_)
      unfold dlS
      rw [sI_ne (by omega), arL_o 83 (by omega) (by omega)]
      exact h1.1.2.2.1
  · rw [if_neg c] at h0
    exact absurd h0 c
theorem si_se (wa : Wf X ta false a c) (wb : Wf X tb false lo hi) (hb1 : c < 100000) (hb : hi < 100000) (h : SI T v g n) (hc : cn (seC X ta tb T) < 6000) (h0 : (seC X ta tb T).1 7 0 = 0) : SK T (seC X ta tb T) v g n := by
  have f1 := chk_fe (X := X) tb 0 0 T
  have g1 := f1.tg h.1.1
  unfold seC at hc h0 ⊢
  by_cases c0 : (chk X tb 0 0 T).2.2.2.1 7 0 = 0
  · rw [if_pos c0] at hc h0 ⊢
    by_cases c1 : tkd X ta = 4
    · rw [if_pos c1] at hc h0 ⊢
      by_cases c2 : 0 ≤ fd (isVa (chk X tb 0 0 T).2.2.2 (xN X (lfI ta))) (vn (chk X tb 0 0 T).2.2.2)
      · rw [if_pos c2] at hc h0 ⊢
        unfold svS at hc h0 ⊢
        have key : cn (ftS (chk X tb 0 0 T).2.2.2 (chk X tb 0 0 T).1 (tf (chk X tb 0 0 T).2.2.2 80 (fd (isVa (chk X tb 0 0 T).2.2.2 (xN X (lfI ta))) (vn (chk X tb 0 0 T).2.2.2))) (plT X tb)) < 6000 := by
          split at hc
          · exact (FS.gv).lt (FE.ft.tg g1) hc
          · exact hc
        have hc1 := FE.ft.lt g1 key
        have h1 := (si_ch wb hb h hc1).1
        have h2 := h1.tr (h1.1.fe FE.ft (h1.1.1.ft key))
        split
        · exact h2.tr (h2.1.fo FO.gv (by rw [gv_83]; exact h2.1.2.2.1))
        · exact h2
      · rw [if_neg c2] at h0
        exact absurd h0 (flT_bad (by decide))
    · rw [if_neg c1] at hc h0 ⊢
      by_cases c2 : tkd X ta = 14 ∨ tkd X ta = 15 ∨ tkd X ta = 16
      · rw [if_pos c2] at hc h0 ⊢
        have f2 := chk_fe (X := X) ta 0 0 (chk X tb 0 0 T).2.2.2
        have g2 := f2.tg g1
        have hc3 := FE.ft.lt (FE.td.tg g2) hc
        have hc2 := FE.td.lt g2 hc3
        have hc1 := f2.lt g1 hc2
        have h1 := (si_ch wb hb h hc1).1
        have h2 := h1.tr (si_ch wa hb1 h1.1 hc2).1
        have h3 := h2.tr (h2.1.fe FE.td (h2.1.1.td (k14 := decide (tkd X ta = 14)) (w := (chk X ta 0 0 (chk X tb 0 0 T).2.2.2).2.1) hc2))
        exact h3.tr (h3.1.fe FE.ft (h3.1.1.ft hc))
      · rw [if_neg c2] at h0
        exact absurd h0 (flT_bad (by decide))
  · rw [if_neg c0] at h0
    exact absurd h0 c0
theorem si_see {sl t : Int32} (h : SI T v g n) (hv : v < 20) (ht : tV T t) : SK T (seS T nm sl t) (v + 1) g n := by
  obtain ⟨h1, h2, h3, h4, h5, h6, h7, h8⟩ := h
  have c := h1.2.2
  have o : ∀ k, k ≠ 79 → k ≠ 80 → k ≠ 77 → (seS T nm sl t).1 k = T.1 k := by
    intro k a b d
    unfold seS
    rw [sI_ne d, sI_ne b, sI_ne a]
    rfl
  have e77 : (seS T nm sl t).1 77 0 = nI (vn T + 1) := by
    unfold seS
    rw [sI_v]
  have evn : vn (seS T nm sl t) = vn T + 1 := by
    unfold vn at e77 ⊢
    rw [e77]
    exact nc (by have := c.2.2.2.2.1; unfold vn at this; omega)
  have ern : rn (seS T nm sl t) = rn T := by
    unfold rn
    rw [o 71 (by omega) (by omega) (by omega)]
  have e80 : (seS T nm sl t).1 80 = (sI T 80 (vn T) t).1 80 := by
    unfold seS
    rw [sI_ne (by omega)]
    show (fun j => _) = (fun j => _)
    funext j
    rfl
  refine ⟨⟨?_, by omega, ?_, ?_, h5, by omega, ?_, ?_⟩, by omega, ern⟩
  · refine h1.mv (fun k a b => o k (by omega) (by omega) (by omega)) (fun k hk => ?_) ?_ ?_ ?_
    · unfold seS
      show (sJ T 78 (vn T) nm).2 k = T.2 k
      exact sJ_ne (by omega)
    · unfold Rg
      rw [o 71 (by omega) (by omega) (by omega), o 73 (by omega) (by omega) (by omega), ern]
      exact c.1
    · intro z hz
      rw [o 74 (by omega) (by omega) (by omega)]
      exact c.2.1 z hz
    · refine ⟨by rw [evn]; exact e77, by omega, fun w hw => ?_⟩
      rw [e80]
      by_cases q : w = vn T
      · rw [q, sI_v]; exact ht
      · have e1 : (sI T 80 (vn T) t).1 80 w = T.1 80 w := by simp [sI, upd, q]
        rw [e1]
        exact c.2.2.2.2.2 w (by omega)
  · rw [o 83 (by omega) (by omega) (by omega)]; exact h3
  · rw [o 86 (by omega) (by omega) (by omega)]; exact h4
  · rw [o 84 (by omega) (by omega) (by omega)]; exact h7
  · rw [o 85 (by omega) (by omega) (by omega)]; exact h8
theorem SI.up (h : SI T v g n) (h2 : v ≤ v') : SI T v' g n := ⟨h.1, Nat.le_trans h.2.1 h2, h.2.2⟩
theorem si_va (hty : tyW X 6 (i + 3)) (hw : ¬ isZ ta = true → Wf X ta false lo hi) (hb : hi < 100000) (hv : v < 20) (h : SI T v g n) (hc : cn (vaC X ta i v T).2 < 6000) (h0 : (vaC X ta i v T).2.1 7 0 = 0) : SK T (vaC X ta i v T).2 (v + 1) g n := by
  have fM : FE T (vaM X T i).2 := (FE.wr (by omega)).tr (FE.me _ _ _)
  have gM := fM.tg h.1.1
  have fF : FE (vaM X T i).2 (vaF X ta (vaM X T i).2 (vaM X T i).1) := by
    unfold vaF vaR
    by_cases z : isZ ta = true
    · rw [if_pos z]; exact FE.rf
    · simp only [if_neg z]
      exact (chk_fe (X := X) ta 0 0 _).tr FE.ft
  have gF := fF.tg gM
  have cF : cn (vaF X ta (vaM X T i).2 (vaM X T i).1) < 6000 := by
    unfold vaC at hc
    refine FS.lt (T' := _) ?_ gF hc
    unfold vaE
    exact FS.if2 (FS.if2 (FS.fe (FE.fl (by decide))) (FS.if2 FS.see (FS.see.tr FS.gv))) FS.rf
  have cM := fF.lt gM cF
  have c0 : cn T < 6000 := fM.lt h.1.1 cM
  have hm := (h.1.wr (k := 92) (i := 0) (v := T.1 92 0 + 1) (by omega) c0).me hty cM
  have sM : SK T (vaM X T i).2 v g n := h.fe fM hm.1
  have sF : SK T (vaF X ta (vaM X T i).2 (vaM X T i).1) v g n := by
    refine sM.tr (sM.1.fe fF ?_)
    unfold vaF vaR at cF ⊢
    by_cases z : isZ ta = true
    · rw [if_pos z]; exact sM.1.1
    · simp only [if_neg z] at cF ⊢
      have cq := FE.ft.lt ((chk_fe (X := X) ta 0 0 _).tg gM) cF
      exact (si_ch (hw z) hb sM.1 cq).1.1.1.ft cF
  have tt : (vaF X ta (vaM X T i).2 (vaM X T i).1).1 7 0 = 0 → tV (vaF X ta (vaM X T i).2 (vaM X T i).1) (vaM X T i).1 := by
    intro q
    exact (hm.2 (Decidable.byContradiction fun z => fF.2.2.2 z q)).fe fF gM
  unfold vaC at h0 ⊢
  dsimp only at h0 ⊢
  generalize vaF X ta (vaM X T i).2 (vaM X T i).1 = S at *
  generalize (vaM X T i).1 = t at *
  generalize (vaR X ta (vaM X T i).2).1 = y at *
  unfold vaE at h0 ⊢
  by_cases c1 : S.1 7 0 = 0
  · rw [if_pos c1] at h0 ⊢
    by_cases c2 : 0 ≤ fd (isVa S (xN X (i + 1))) (vn S)
    · rw [if_pos c2] at h0
      exact absurd h0 (flT_bad (by decide))
    · rw [if_neg c2]
      have s2 := sF.tr (si_see (nm := xN X (i + 1)) (sl := nI v) sF.1 hv (tt c1))
      split
      · exact s2
      · exact s2.tr (s2.1.fo FO.gv (by rw [gv_83]; exact s2.1.2.2.1))
  · rw [if_neg c1] at h0
    exact absurd h0 c1
theorem Ws_mo (t : Tr) : ∀ (m a b v g v' g' : Nat), Ws X t m a b v g v' g' → a ≤ b ∧ v ≤ v' ∧ g ≤ g' := by
  induction t using Tr_ind with
  | hz t hz =>
    intro m a b v g v' g' h
    unfold Ws at h
    split at h
    · rename_i k i e a b
      exact absurd rfl (hz k i e a b)
    · omega
    · exact h.elim
  | h k i e ta tb ihA ihB =>
    intro m a b v g v' g' h
    rw [Ws_n] at h
    unfold WsN at h
    by_cases c0 : m = 2
    · rw [if_pos c0] at h
      have := ihA _ _ _ _ _ _ _ h.2.1; omega
    rw [if_neg c0] at h
    by_cases c1 : m = 1
    · rw [if_pos c1] at h
      obtain ⟨_, c, v1, g1, h1, h2⟩ := h
      have := ihA _ _ _ _ _ _ _ h1
      have := ihB _ _ _ _ _ _ _ h2
      omega
    rw [if_neg c1] at h
    by_cases c2 : m = 3
    · rw [if_pos c2] at h
      obtain ⟨_, c, v1, g1, h1, h2⟩ := h
      have := ihA _ _ _ _ _ _ _ h1
      split at h2
      · omega
      · have := ihB _ _ _ _ _ _ _ h2
        omega
    rw [if_neg c2] at h
    by_cases c3 : k = 20
    · rw [if_pos c3] at h
      obtain ⟨h1, h2, h3, h4, h5, h6, h7⟩ := h
      have ge := tyE_ge (X := X) 6 (i + 3)
      split at h7
      · omega
      · obtain ⟨c, h8, h9⟩ := h7
        have := Wf_le2 h8.1
        omega
    rw [if_neg c3] at h
    by_cases c4 : k = 21
    · rw [if_pos c4] at h
      obtain ⟨h1, c, h2, h3⟩ := h
      have := ihB _ _ _ _ _ _ _ h3
      have := Wf_le2 h2.1
      omega
    rw [if_neg c4] at h
    by_cases c5 : k = 22
    · rw [if_pos c5] at h
      obtain ⟨h1, c, h2, h3⟩ := h
      have := ihB _ _ _ _ _ _ _ h3
      have := Wf_le2 h2.1
      omega
    rw [if_neg c5] at h
    by_cases c6 : k = 23
    · rw [if_pos c6] at h
      obtain ⟨h1, h2, h3, h4⟩ := h
      split at h4
      · omega
      · obtain ⟨c, h5, h6⟩ := h4
        have := Wf_le2 h5.1
        omega
    rw [if_neg c6] at h
    by_cases c7 : k = 24 ∨ k = 25
    · rw [if_pos c7] at h
      obtain ⟨h1, h2, h3, c, h4, h5⟩ := h
      have := Wf_le2 h4.1
      omega
    rw [if_neg c7] at h
    by_cases c8 : k = 30
    · rw [if_pos c8] at h
      obtain ⟨h1, h2, h3, c, h4, h5⟩ := h
      have := Wf_le2 h4.1
      omega
    rw [if_neg c8] at h
    by_cases c9 : k = 29
    · rw [if_pos c9] at h
      obtain ⟨h1, h2, h3, c, c2, h4, h5, h6⟩ := h
      have := Wf_le2 h4.1
      have := Wf_le2 h5.1
      omega
    rw [if_neg c9] at h
    by_cases c10 : k = 26
    · rw [if_pos c10] at h
      have := ihA _ _ _ _ _ _ _ h.2.2; omega
    rw [if_neg c10] at h
    by_cases c11 : k = 27
    · rw [if_pos c11] at h
      omega
    rw [if_neg c11] at h
    by_cases c12 : k = 28
    · rw [if_pos c12] at h
      obtain ⟨h1, c, v1, g1, h2, h3⟩ := h
      have := ihA _ _ _ _ _ _ _ h2
      have := ihB _ _ _ _ _ _ _ h3
      omega
    · rw [if_neg c12] at h
      exact h.elim
theorem inL_ok (h : ∀ j, j < n → T.1 85 j ≤ 0 ∨ ∃ e, T.1 85 j = nI e ∧ e < c) : ∀ (k j : Nat) (z : Int32), j + k ≤ n → (z = 0 ∨ ∃ e, z = nI e ∧ e < c) → inL T k j z = 0 ∨ ∃ e, inL T k j z = nI e ∧ e < c := by
  intro k
  induction k with
  | zero => intro j z _ hz; exact hz
  | succ k ih =>
    intro j z hk hz
    rw [inL]
    refine ih (j + 1) _ (by omega) ?_
    by_cases q : T.1 85 j ≤ 0
    · rw [if_pos q]; exact hz
    · rw [if_neg q]
      exact Or.inr ((h j (by omega)).resolve_left q)
theorem si_rgo (h : SI T v g n) (hg : g < 8) (hn : n < 90000) : SI (rgO T nm) v (g + 1) (n + 1) ∧ rn (rgO T nm) = rn T + 1 ∧ vn (rgO T nm) = vn T := by
  obtain ⟨h1, h2, h3, h4, h5, h6, h7, h8⟩ := h
  have c := h1.2.2
  have ean : arn T = n := by unfold arn; rw [h7]; exact nc (by omega)
  have e4g : (4 : Int32) + nI g = nI (4 + g) := by
    rw [show (4 : Int32) = nI 4 from rfl]
    exact (Int32.ofNat_add 4 g).symm
  have c4g : (nI (4 + g)).toNatClampNeg = 4 + g := nc (by omega)
  have o : ∀ k, k ≠ 86 → k ≠ 74 → k ≠ 73 → k ≠ 71 → k ≠ 85 → k ≠ 84 → k ≠ 75 → (rgO T nm).1 k = T.1 k := by
    intro k a1 a2 a3 a4 a5 a6 a7
    unfold rgO
    rw [sI_ne a7, sI_ne a6, sI_ne a5, sI_ne a4, sI_ne a3, sJ_i, sI_ne a2, sI_ne a1]
  have e71 : (rgO T nm).1 71 0 = nI (rn T + 1) := by
    unfold rgO
    rw [sI_ne (by omega), sI_ne (by omega), sI_ne (by omega), sI_v]
  have e84 : (rgO T nm).1 84 0 = nI (n + 1) := by
    unfold rgO
    rw [sI_ne (by omega), sI_v, ean]
  have e86 : (rgO T nm).1 86 0 = nI (g + 1) := by
    unfold rgO
    rw [sI_ne (by omega), sI_ne (by omega), sI_ne (by omega), sI_ne (by omega), sI_ne (by omega), sJ_i, sI_ne (by omega), sI_v, h4]
    exact nI_1 _
  have e73 : ∀ k, (rgO T nm).1 73 k = if k = rn T then nI (4 + g) else T.1 73 k := by
    intro k
    unfold rgO
    rw [sI_ne (by omega), sI_ne (by omega), sI_ne (by omega), sI_ne (by omega), h4, e4g, sI_at, sJ_i, sI_ne (by omega), sI_ne (by omega)]
    rfl
  have e74 : ∀ k, (rgO T nm).1 74 k = if k = 4 + g then inL T n 0 0 else T.1 74 k := by
    intro k
    unfold rgO
    rw [sI_ne (by omega), sI_ne (by omega), sI_ne (by omega), sI_ne (by omega), sI_ne (by omega), sJ_i, h4, e4g, c4g, ean, sI_at, sI_ne (by omega)]
    rfl
  have e85 : ∀ k, (rgO T nm).1 85 k = if k = n then nI (4 + g) else T.1 85 k := by
    intro k
    unfold rgO
    rw [sI_ne (by omega), sI_ne (by omega), h4, e4g, ean, sI_at, sI_ne (by omega), sI_ne (by omega), sJ_i, sI_ne (by omega), sI_ne (by omega)]
    rfl
  have ern : rn (rgO T nm) = rn T + 1 := by
    have : rn (rgO T nm) = (nI (rn T + 1)).toNatClampNeg := by rw [← e71]; rfl
    rw [this]
    exact nc (by omega)
  have evn : vn (rgO T nm) = vn T := by
    unfold vn
    rw [o 77 (by omega) (by omega) (by omega) (by omega) (by omega) (by omega) (by omega)]
  refine ⟨⟨?_, by omega, ?_, e86, by omega, by omega, e84, ?_⟩, ern, evn⟩
  · refine h1.mv (fun k a b => o k (by omega) (by omega) (by omega) (by omega) (by omega) (by omega) (by omega)) (fun k hk => ?_) ?_ ?_ ?_
    · unfold rgO
      show (sJ _ 72 (rn T) nm).2 k = T.2 k
      rw [sJ_ne (by omega)]
      rfl
    · refine ⟨⟨by rw [ern]; exact e71, by omega⟩, fun k hk => ?_⟩
      rw [e73]
      by_cases q : k = rn T
      · rw [if_pos q]; exact ⟨4 + g, rfl, by omega⟩
      · rw [if_neg q]; exact c.1.2 k (by omega)
    · intro z hz
      rw [e74]
      by_cases q : z = 4 + g
      · rw [if_pos q, q]
        exact inL_ok h8 n 0 0 (by omega) (Or.inl rfl)
      · rw [if_neg q]; exact c.2.1 z hz
    · rw [evn, o 77 (by omega) (by omega) (by omega) (by omega) (by omega) (by omega) (by omega), o 80 (by omega) (by omega) (by omega) (by omega) (by omega) (by omega) (by omega)]
      exact c.2.2.2
  · rw [o 83 (by omega) (by omega) (by omega) (by omega) (by omega) (by omega) (by omega)]; exact h3
  · intro j hj
    rw [e85]
    by_cases q : j = n
    · rw [if_pos q]; exact Or.inr ⟨4 + g, rfl, by omega⟩
    · rw [if_neg q]
      rcases h8 j (by omega) with z | ⟨e, z1, z2⟩
      · exact Or.inl z
      · exact Or.inr ⟨e, z1, by omega⟩
end SIW
