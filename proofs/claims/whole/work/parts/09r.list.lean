/-! the reference's check of an EXPR, and of arguments -/
def dpT : Tr → Nat
  | .add (.add (.var k) (.add (.var _) (.var _))) (.add a b) => if k = 2 ∨ k = 3 ∨ k = 10 then max (dpT a) (dpT b) else if k = 4 ∨ k = 5 then max (dpT a) (dpT b + 1) else max (dpT a) (dpT b) + 1
  | _ => 0
def ChQ (X : Lx) (t : Tr) (T : gSt) (lo hi a b : Nat) (x r : Int32) (T' : gSt) : Prop := er T' = (chk X t 0 0 (er T)).2.2.2 ∧ Fm X T T' lo hi a b ∧ (T'.1 7 0 = 0 → r = (chk X t 0 0 (er T)).1 ∧ AnE X T' t lo hi x (chk X t 0 0 (er T)).1 (chk X t 0 0 (er T)).2.1 (chk X t 0 0 (er T)).2.2.1)
def LsQ (X : Lx) (t : Tr) (T : gSt) (lo hi a b f : Nat) (w x : Int32) (T' : gSt) : Prop := er T' = (chk X t f w (er T)).2.2.2 ∧ Fm X T T' lo hi a b ∧ (T'.1 7 0 = 0 → AnE X T' t lo hi x 0 0 (chk X t f w (er T)).2.2.1)
def CkE (nf : Nat) (X : Lx) (t : Tr) : Prop := ∀ (T : gSt) (d lo hi a b s : Nat) (x : Int32), RepM X T t lo hi x → hi ≤ 8200 → Wf X t false a b → b ≤ xn X → Ck (er T) → T.1 94 0 = nI s → s + (hi - lo) ≤ 8200 → 6 * dpT t + 20 ≤ d → nU T ≤ 4000 → cn (chk X t 0 0 (er T)).2.2.2 < 6000 → wp (RR nf d 86 T [x] []) (fun r _ T' => ChQ X t T lo hi a b x r T')
def CkL (nf : Nat) (X : Lx) (t : Tr) : Prop := ∀ (T : gSt) (d lo hi a b s f fl : Nat) (w x : Int32), RepM X T t lo hi x → hi ≤ 8200 → Wf X t true a b → b ≤ xn X → Ck (er T) → agOk (er T) f w t → T.1 94 0 = nI s → s + (hi - lo) ≤ 8200 → 6 * dpT t + 20 ≤ d → nU T ≤ 4000 → hi - lo < fl → cn (chk X t f w (er T)).2.2.2 < 6000 → wp (rl_Model_fitAll_16 (RR nf d) nf fl T w (nI f) x) (fun _ _ T' => LsQ X t T lo hi a b f w x T')
section LS
variable {nf d : Nat} {T T' T1 : gSt} {X : Lx} {m n p u i k e l lo hi a b s f : Nat} {x y r w : Int32} {t ta tb : Tr}
theorem RepM_nd (t : Tr) : ∀ (lo hi a b : Nat) (x : Int32), RepM X T t lo hi x → Wf X t false a b → ∃ m, x = nI m ∧ lo ≤ m ∧ m < hi ∧ T.1 51 m = plT X t ∧ T.1 50 m = nI (tkd X t) := by
  induction t using Tr_ind with
  | hz t hz =>
    intro lo hi a b x h hw
    unfold Wf at hw
    split at hw
    · rename_i k i e a b
      exact absurd rfl (hz k i e a b)
    · exact absurd hw.1 (by decide)
    · exact hw.elim
  | h k i e ta tb ihA ihB =>
    intro lo hi a b x h hw
    rw [RepM_n] at h
    rw [Wf_n] at hw
    unfold WfN at hw
    rw [if_neg (by decide)] at hw
    unfold RpN at h
    by_cases c : k = 1
    · simp only [if_pos c] at h hw
      subst c
      obtain ⟨h1, h2, h3, h4⟩ := h
      refine ⟨lo, h1, Nat.le_refl _, by omega, h3, ?_⟩
      show _ = nI (if xK X i = 5 then 0 else if xK X i = 27 then 1 else if xK X i = 34 then 2 else if xK X i = 35 then 3 else 4)
      by_cases c : xK X i = 5
      · simp only [if_pos c] at h4 ⊢; exact h4.1
      simp only [if_neg c] at h4 ⊢; clear c
      by_cases c : xK X i = 27
      · simp only [if_pos c] at h4 ⊢; exact h4
      simp only [if_neg c] at h4 ⊢; clear c
      by_cases c : xK X i = 34
      · simp only [if_pos c] at h4 ⊢; exact h4
      simp only [if_neg c] at h4 ⊢; clear c
      by_cases c : xK X i = 35
      · simp only [if_pos c] at h4 ⊢; exact h4
      simp only [if_neg c] at h4 ⊢; exact h4.1
    simp only [if_neg c] at h hw; clear c
    by_cases c : k = 2
    · simp only [if_pos c] at h hw
      subst c
      obtain ⟨c1, e1, e2, e3⟩ := hw
      exact ihA lo hi _ _ x h e2
    simp only [if_neg c] at h hw; clear c
    by_cases c : k = 3
    · simp only [if_pos c] at h hw
      subst c
      obtain ⟨m, y, h1, h2, h3, h4, h5, h6, h7⟩ := h
      refine ⟨m, h1, h2, by omega, h5, ?_⟩
      show _ = nI (if xK X i = 49 then 14 else if xK X i = 61 then 16 else 17)
      by_cases c : xK X i = 49
      · simp only [if_pos c] at h7 ⊢; exact h7.1
      simp only [if_neg c] at h7 ⊢; clear c
      by_cases c : xK X i = 61
      · simp only [if_pos c] at h7 ⊢; exact h7
      simp only [if_neg c] at h7 ⊢; exact h7.1
    simp only [if_neg c] at h hw; clear c
    by_cases c : k = 4
    · simp only [if_pos c] at h hw
      subst c
      obtain ⟨m, y, z, h1, h2, h3, h4, h5, h6, h7, h8, h9⟩ := h
      exact ⟨m, h1, h2, h3, h6, h9⟩
    simp only [if_neg c] at h hw; clear c
    by_cases c : k = 5
    · simp only [if_pos c] at h hw
      subst c
      obtain ⟨m, y, z, h1, h2, h3, h4, h5, h6, h7, h8, h9, h10⟩ := h
      exact ⟨m, h1, h2, h3, h6, h9⟩
    simp only [if_neg c] at h hw; clear c
    by_cases c : k = 6
    · simp only [if_pos c] at h hw
      subst c
      obtain ⟨u, z, h1, h2, h3, h4, h5, h6⟩ := h
      exact ⟨lo, h1, Nat.le_refl _, h2, h5, h4⟩
    simp only [if_neg c] at h hw; clear c
    by_cases c : k = 7
    · simp only [if_pos c] at h hw
      subst c
      obtain ⟨u, v, z, h1, h2, h3, h4, h5, h6, h7, h8, h9, h10⟩ := h
      refine ⟨lo, h1, Nat.le_refl _, h2, h3, ?_⟩
      show _ = nI (if xK X (i + 3 + e) = 49 then 7 else 6)
      by_cases c : xK X (i + 3 + e) = 49
      · simp only [if_pos c] at h10 ⊢; exact h10.1
      · simp only [if_neg c] at h10 ⊢; exact h10.1
    simp only [if_neg c] at h hw; clear c
    by_cases c : k = 8
    · simp only [if_pos c] at h hw
      subst c
      obtain ⟨z, h1, h2, h3, h4, h5⟩ := h
      refine ⟨lo, h1, Nat.le_refl _, h2, h3, ?_⟩
      show _ = nI (if xK X i = 29 then 8 else if xK X i = 30 then 9 else if xK X i = 31 then 11 else 12)
      by_cases c : xK X i = 29
      · simp only [if_pos c] at h5 ⊢; exact h5.1
      simp only [if_neg c] at h5 ⊢; clear c
      by_cases c : xK X i = 30
      · simp only [if_pos c] at h5 ⊢; exact h5.1
      simp only [if_neg c] at h5 ⊢; clear c
      rw [h5.1]
      by_cases c : xK X i = 31
      · simp only [if_pos c]; rfl
      · simp only [if_neg c]; rfl
    simp only [if_neg c] at h hw; clear c
    by_cases c : k = 9
    · simp only [if_pos c] at h hw
      subst c
      obtain ⟨z, h1, h2, h3, h4, h5, h6⟩ := h
      exact ⟨lo, h1, Nat.le_refl _, h2, h3, h5⟩
    simp only [if_neg c] at hw
theorem sp_nU (h : SP T T') : nU T' = nU T := by
  unfold nU
  rw [h.1 45 (by omega) rfl]
theorem dpT_n : dpT (tD k i e ta tb) = if k = 2 ∨ k = 3 ∨ k = 10 then max (dpT ta) (dpT tb) else if k = 4 ∨ k = 5 then max (dpT ta) (dpT tb + 1) else max (dpT ta) (dpT tb) + 1 := rfl
theorem ftS_er_bad (h : ¬ T.1 7 0 = 0) {v : Int32} : ftS T x y v = T := by
  unfold ftS
  rw [if_neg (fun q => h q.1)]
theorem ls_n (hx : PI X) (hX : xn X ≤ 4000) (hnf : 6000 ≤ nf) (hA : CkE nf X ta) (hB : CkL nf X tb) : CkL nf X (tD k i e ta tb) := by
  intro T d lo hi a b s f fl w x hR hhi hw hbx hC hg hs hss hd hU hfl hc
  rw [Wf_n] at hw
  obtain ⟨rfl, b1, c1, e1, e2, e3⟩ := WfN.lst hw
  have l2 := Wf_le2 e2
  have l3 := Wf_le2 e3
  rw [RepM_n] at hR
  unfold RpN at hR
  simp only [if_neg (show ¬ (10 = 1) by omega), if_neg (show ¬ (10 = 2) by omega), if_neg (show ¬ (10 = 3) by omega), if_neg (show ¬ (10 = 4) by omega), if_neg (show ¬ (10 = 5) by omega), if_neg (show ¬ (10 = 6) by omega), if_neg (show ¬ (10 = 7) by omega), if_neg (show ¬ (10 = 8) by omega), if_neg (show ¬ (10 = 9) by omega), if_pos (rfl : 10 = 10)] at hR
  obtain ⟨m, y, z, r1, r2', r3, r4, r5, r6, r7, r8, r9⟩ := hR
  subst r1
  rw [dpT_n, if_pos (by omega)] at hd
  have zm : inb (nI m) 8200 := nin (by omega) (by omega)
  have cm : (nI m).toNatClampNeg = m := nc (by omega)
  obtain ⟨my, y1, y2, y3, y4, y5⟩ := RepM_nd ta lo m _ _ y r4 e2
  obtain ⟨fl', rfl⟩ : ∃ g, fl = g + 1 := ⟨fl - 1, by omega⟩
  rw [rl_Model_fitAll_16]
  refine wp_f (nI_pos (by omega)) ?_
  obtain ⟨d', rfl⟩ : ∃ g, d = g + 20 := ⟨d - 20, by omega⟩
  by_cases c0 : ¬ T.1 7 0 = 0
  · refine wp_be (x_bd1 c0) (wp_f (by decide) (wp_some ⟨?_, Fm.rf, fun q => absurd q c0⟩))
    rw [chk_bad (T := er T) c0]
    rfl
  have c0 := Decidable.not_not.mp c0
  refine wp_be (x_bd0 c0) (wp_t rfl (wp_gd zm ?_))
  rw [cm, r7]
  have hc' : cn (agC X (chk X ta) (chk X tb) ta f w (er T)).2.2.2 < 6000 := by
    have h := hc
    rw [chk_n, if_pos (show (er T).1 7 0 = 0 from c0)] at h
    exact h
  have eN : chk X (tD 10 i e ta tb) f w (er T) = agC X (chk X ta) (chk X tb) ta f w (er T) := by
    rw [chk_n, if_pos (show (er T).1 7 0 = 0 from c0)]
    rfl
  have fa := chk_fe (X := X) ta 0 0 (er T)
  have ga := fa.tg hC.1
  have cA : cn (chk X ta 0 0 (er T)).2.2.2 < 6000 := by
    unfold agC at hc'
    by_cases q : (chk X ta 0 0 (er T)).2.2.2.1 7 0 = 0
    · simp only [if_pos q] at hc'
      exact (((FE.ch _ _ _).tr FE.ft).tr (chk_fe (X := X) tb _ _ _)).lt ga hc'
    · simp only [if_neg q] at hc'
      exact hc'
  refine wp_bi (hA T (d' + 20) lo m _ _ s y r4 (by omega) e2 (by omega) hC hs (by omega) (by omega) hU cA) ?_
  rintro ra _ T1 ⟨q1, q2, q3⟩
  have feT : FE (er T) (er T1) := by rw [q1]; exact fa
  have sp1 := SP.of feT
  have hC1 : Ck (er T1) := by rw [q1]; exact (iv_ex0 (chk_inv ta) ⟨e2, by omega⟩ hC cA).1
  have o52 : T1.1 52 m = y := by rw [sp1.1 52 (by omega) rfl]; exact r7
  have o55 : T1.1 55 m = z := by rw [sp1.1 55 (by omega) rfl]; exact r8
  have o51 : T1.1 51 my = plT X ta := by rw [sp1.1 51 (by omega) rfl]; exact y4
  have hs1 : T1.1 94 0 = nI s := q2.2.2.2.trans hs
  by_cases c1' : ¬ T1.1 7 0 = 0
  · refine wp_be (x_bd1 c1') (wp_f (by decide) (wp_v (wp_gd zm ?_)))
    rw [o55]
    refine wp_v ?_
    have hend : wp (rl_Model_fitAll_16 (RR nf (d' + 20)) nf fl' T1 w (nI f + 1) z) (fun _ _ T' => T' = T1) := by
      obtain ⟨fl2, rfl⟩ : ∃ g, fl' = g + 1 := ⟨fl' - 1, by omega⟩
      rw [rl_Model_fitAll_16]
      by_cases zz : z < 0
      · exact wp_t zz (wp_some rfl)
      · exact wp_f zz (wp_be (x_bd1 c1') (wp_f (by decide) (wp_some rfl)))
    refine wp_mono hend ?_
    rintro _ _ T' rfl
    refine ⟨?_, q2.up (by omega) (by omega) (by omega) (by omega), fun q => absurd q c1'⟩
    rw [eN]
    unfold agC
    rw [if_neg (by rw [← q1]; exact c1')]
    exact q1
  have c1' := Decidable.not_not.mp c1'
  obtain ⟨q4, q5⟩ := q3 c1'
  refine wp_be (x_bd0 c1') (wp_t rfl ?_)
  have hcS : (chk X ta 0 0 (er T)).2.2.2.1 7 0 = 0 := by rw [← q1]; exact c1'
  have tRa := ((iv_ex0 (chk_inv ta) ⟨e2, by omega⟩ hC cA).2 hcS).1
  unfold agC at hc' eN
  simp only [if_pos hcS] at hc' eN
  rw [← q1] at hc' eN tRa
  have g1 : Tg (er T1) := hC1.1
  have f2 := FE.ch (w := w) 7 (er T1) ((er T1).1 24 f)
  have g2 := f2.tg g1
  have f3 := FE.ft (T := (chT 7 (er T1) ((er T1).1 24 f) w).2) (x := (chk X ta 0 0 (er T)).1) (y := (chT 7 (er T1) ((er T1).1 24 f) w).1) (v := plT X ta)
  have g3 := f3.tg g2
  have f4 := chk_fe (X := X) tb (f + 1) w (ftS (chT 7 (er T1) ((er T1).1 24 f) w).2 (chk X ta 0 0 (er T)).1 (chT 7 (er T1) ((er T1).1 24 f) w).1 (plT X ta))
  have c3 := f4.lt g3 hc'
  have c2 := f3.lt g2 c3
  have hg1 := hg.fe feT hC.1 (by rw [q1]; exact cA)
  obtain ⟨a1, a2, a3⟩ := hg1.2 0 (by show 0 < lenT tb + 1; omega)
  rw [Nat.add_zero] at a1 a2 a3
  refine wp_gd (nin (by omega) (by omega)) ?_
  rw [nc (by omega)]
  have ec := er_chT (w := w) 7 T1 (T1.1 24 f)
  have e24 : (er T1).1 24 f = T1.1 24 f := rfl
  rw [e24] at c2 c3 hc' eN f2 f3 f4 a2 a3
  have hcT : cn (chT 7 T1 (T1.1 24 f) w).2 < 6000 := by rw [← er_cn, ← ec.2]; exact c2
  refine wp_be (x_chg hnf 7 (d' + 11) T1 _ (er_dOk _ _ a3) g1 hcT) ?_
  have hC2 := hC1.ch hg.1 a2 a3 c2
  rw [ec.1, ec.2] at hC2
  have sp2 : SP T1 (chT 7 T1 (T1.1 24 f) w).2 := SP.fe (FE.ch _ _ _)
  generalize hT2 : (chT 7 T1 (T1.1 24 f) w).2 = T2 at *
  generalize hr2 : (chT 7 T1 (T1.1 24 f) w).1 = r2 at *
  refine wp_gd zm ?_
  rw [sp2.1 52 (by omega) rfl, o52, y1]
  refine wp_gd (nin (by omega) (by omega)) ?_
  rw [nc (by omega), sp2.1 51 (by omega) rfl, o51]
  have hy2 : T2.1 7 0 = 0 → r2 = 0 ∨ inb r2 6000 := fun _ => by
    rcases hC2.2 with h | ⟨p, h1, h2, h3⟩
    · exact Or.inl h
    · have h3' : p < cn T2 := h3
      exact Or.inr (by rw [h1]; exact nin (by omega) (by omega))
  have hry : T2.1 7 0 = 0 → inb r2 6000 → ¬ r2 = 0 → rC (T2.1 67 r2.toNatClampNeg) := fun _ q q0 => by
    rcases hC2.2 with h | ⟨p, h1, h2, h3⟩
    · exact absurd h q0
    · have h3' : p < cn T2 := h3
      rw [h1, nc (by omega)]
      exact rC2.rc (hC2.1.row h2 h3).2.1
  have hRi2 : Ri T2 := hC2.1.2.2.2.1
  refine wp_be (x_fit (d := d' + 16) hRi2 (fun _ => tF.of (T := T1) (by rw [q4]; exact tRa) (by rw [← er_cn, q1]; exact cA)) hy2 hry (by omega)) ?_
  rw [q4]
  have e3S : er (ftS T2 (chk X ta 0 0 (er T)).1 r2 (plT X ta)) = ftS (chT 7 (er T1) (T1.1 24 f) w).2 (chk X ta 0 0 (er T)).1 (chT 7 (er T1) (T1.1 24 f) w).1 (plT X ta) := by rw [er_ftS, ec.1, ec.2]
  have sp3 : SP T2 (ftS T2 (chk X ta 0 0 (er T)).1 r2 (plT X ta)) := SP.fe FE.ft
  have nt3 : ∀ k, anF k = true → (ftS T2 (chk X ta 0 0 (er T)).1 r2 (plT X ta)).1 k = T1.1 k := fun k hk => (nt_ft k hk).trans (by rw [← hT2]; exact nt_ch k hk)
  generalize hT3 : ftS T2 (chk X ta 0 0 (er T)).1 r2 (plT X ta) = T3 at *
  have sp13 : SP T1 T3 := sp2.tr sp3
  refine wp_v (wp_gd zm ?_)
  rw [sp13.1 55 (by omega) rfl, o55]
  refine wp_v ?_
  rw [nI_1]
  rw [← e3S] at hc' eN c3
  have hC3 : Ck (er T3) := by
    rw [e3S]
    refine Ck.ft (T := (chT 7 (er T1) (T1.1 24 f) w).2) ?_ (by rw [← e3S]; exact c3)
    rw [ec.2]
    exact hC2.1
  have fe13 : FE (er T1) (er T3) := by rw [e3S]; exact f2.tr f3
  have hg3 := hg1.fe fe13 g1 c3
  have rep3 : RepM X T3 tb (m + 1) hi z := by
    refine RepM.kp r9 (sp1.tr sp13) (fun j j1 j2 => ?_)
    rw [nt3 61 rfl]
    exact (q2.1 j (by omega)).2
  have hs3 : T3.1 94 0 = nI s := by rw [nt3 94 rfl]; exact hs1
  have := hB T3 (d' + 20) (m + 1) hi c1 b s (f + 1) fl' w z rep3 hhi e3 hbx hC3 ⟨hg3.1, fun j hj => by
    have := hg3.2 (j + 1) (by show j + 1 < lenT tb + 1; omega)
    rw [show f + 1 + j = f + (j + 1) from by omega]
    exact this⟩ hs3 (by omega) (by omega) (by rw [sp_nU (sp1.tr sp13)]; exact hU) (by omega) hc'
  refine wp_mono this ?_
  rintro _ _ T' ⟨v1, v2, v3⟩
  have fe3 : FE (er T3) (er T') := by rw [v1]; exact chk_fe (X := X) tb (f + 1) w (er T3)
  have spE := SP.of fe3
  have fm1 : Fm X T T1 lo hi a b := q2.up (by omega) (by omega) (by omega) (by omega)
  have fm3 : Fm X T T3 lo hi a b := fm1.tr (Fm.nt nt3) sp1
  refine ⟨?_, fm3.tr (v2.up (by omega) (by omega) (by omega) (by omega)) (sp1.tr sp13), fun q => ?_⟩
  · rw [eN]
    exact v1
  · have an2 := v3 q
    have kp : Kp X T1 T' lo m b1 c1 := (Kp.nt sp13 nt3).tr (Kp.fm hx spE v2 (by omega) (by omega) (by omega) (by omega))
    have an1 := AnE.kp (b := c1) (by omega) ta false b1 c1 lo m y _ _ _ (Nat.le_refl _) e2 kp q5
    rw [eN]
    show AnN X T' (AnE X T' ta) (AnE X T' tb) 10 i e lo hi (nI m) 0 0 _
    unfold AnN
    simp only [if_neg (show ¬ (10 = 1) by omega), if_neg (show ¬ (10 = 2) by omega), if_neg (show ¬ (10 = 3) by omega), if_neg (show ¬ (10 = 4) by omega), if_neg (show ¬ (10 = 5) by omega), if_neg (show ¬ (10 = 6) by omega), if_neg (show ¬ (10 = 7) by omega), if_neg (show ¬ (10 = 8) by omega), if_neg (show ¬ (10 = 9) by omega), if_pos (rfl : 10 = 10)]
    exact ⟨m, y, z, _, _, _, _, rfl, r2', r3, an1, by rw [spE.1 52 (by omega) rfl, sp13.1 52 (by omega) rfl]; exact o52, by rw [spE.1 55 (by omega) rfl, sp13.1 55 (by omega) rfl]; exact o55, an2, trivial, trivial, rfl⟩
theorem ls_z (ht : ∀ k i e a b, t ≠ tD k i e a b) : CkL nf X t := by
  intro T d lo hi a b s f fl w x hR hhi hw hbx hC hg hs hss hd hU hfl hc
  obtain ⟨fl', rfl⟩ : ∃ g, fl = g + 1 := ⟨fl - 1, by omega⟩
  have hx : x = -1 ∧ AnE X T t lo hi x 0 0 [] := by
    unfold RepM at hR
    unfold AnE
    split at hR
    · rename_i k i e a b
      exact absurd rfl (ht k i e a b)
    · exact ⟨hR.1, hR.1, rfl, rfl, rfl⟩
    · exact hR.elim
  rw [rl_Model_fitAll_16]
  refine wp_t (by rw [hx.1]; decide) (wp_some ⟨?_, Fm.rf, fun _ => ?_⟩)
  · rw [chk_nz ht]; rfl
  · rw [chk_nz ht]; exact hx.2
end LS
