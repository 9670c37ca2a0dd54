/-! the reference's check of every EXPR -/
def DsQ (nf : Nat) (X : Lx) (t : Tr) (T : gSt) (d lo hi a b fr fl : Nat) (x e0 : Int32) (T' : gSt) (g : Nat) : Prop := nf ≤ g + (hi - lo) ∧ g ≤ nf ∧ rl_Model_check_16 (RR nf d) nf fl T e0 (nI fr) x = rl_Model_check_69 (RR nf d) nf g T' e0 (nI fr) ∧ er T' = (chk X t 0 0 (er T)).2.2.2 ∧ Fm X T T' lo hi a b ∧ (T'.1 7 0 = 0 → AnE X T' t lo hi x (chk X t 0 0 (er T)).1 (chk X t 0 0 (er T)).2.1 (chk X t 0 0 (er T)).2.2.1)
def CkD (nf : Nat) (X : Lx) (t : Tr) : Prop := ∀ (T : gSt) (d lo hi a b s fr fl : Nat) (x e0 : Int32), RepM X T t lo hi x → hi ≤ 8200 → Wf X t false a b → b ≤ xn X → Ck (er T) → T.1 94 0 = nI s → fr ≤ s → s + (hi - lo) ≤ 8200 → 6 * dpT t + 19 ≤ d → nU T ≤ 4000 → hi - lo < fl → T.1 7 0 = 0 → cn (chk X t 0 0 (er T)).2.2.2 < 6000 → ∃ (T' : gSt) (g : Nat), DsQ nf X t T d lo hi a b fr fl x e0 T' g
section KJ
variable {nf d : Nat} {T T' T1 S : gSt} {X : Lx} {m n p u i k e l lo hi a b s f q v f0 c fr fl g : Nat} {x y r w all z rg e0 : Int32} {t ta tb : Tr} {nm : Int64} {R : ChR}
theorem x_left0 (h : ¬ x = 13 ∧ ¬ x = 14 ∧ ¬ x = 15 ∧ ¬ x = 16 ∧ ¬ x = 17) : RR nf (d + 1) 85 T [x] [] = some (0, 0, T) := by
  rw [e_Model_isLeft]
  unfold rb_Model_isLeft
  rw [if_neg h.1, if_neg h.2.1, if_neg h.2.2.1, if_neg h.2.2.2.1, if_neg h.2.2.2.2]
theorem x_left1 (h : x = 13 ∨ x = 14 ∨ x = 15 ∨ x = 16 ∨ x = 17) : RR nf (d + 1) 85 T [x] [] = some (1, 0, T) := by
  rw [e_Model_isLeft]
  unfold rb_Model_isLeft
  rcases h with rfl | rfl | rfl | rfl | rfl <;> rfl
theorem ds_lf (hd : 1 ≤ d) (hm : m < 8200) (h1 : lo ≤ m) (h2 : m < hi) (hk : ¬ T.1 50 m = 13 ∧ ¬ T.1 50 m = 14 ∧ ¬ T.1 50 m = 15 ∧ ¬ T.1 50 m = 16 ∧ ¬ T.1 50 m = 17) (h : wp (RR nf d 87 T [nI m] []) (fun r _ T' => KR X t (chk X t 0 0 (er T)) T lo hi a b m r T')) (hf : 0 < fl) (hlt : lo < hi) : ∃ (T' : gSt) (g : Nat), DsQ nf X t T d lo hi a b fr fl (nI m) e0 T' g := by
  have zm : inb (nI m) 8200 := nin (by omega) (by omega)
  have cm : (nI m).toNatClampNeg = m := nc (by omega)
  obtain ⟨fl', rfl⟩ : ∃ g, fl = g + 1 := ⟨fl - 1, by omega⟩
  obtain ⟨d', rfl⟩ : ∃ g, d = g + 1 := ⟨d - 1, by omega⟩
  obtain ⟨r, l, T8, e, q1, q2, q3⟩ := h
  have sp : SP T T8 := SP.of (by rw [q1]; exact chk_fe t 0 0 (er T))
  refine ⟨sI T8 60 m r, nf, by omega, Nat.le_refl _, ?_, ?_, q2.tr (Fm.t60 h1 h2) sp, fun q => ?_⟩
  · rw [rl_Model_check_16]
    simp only [gd, if_pos zm, cm]
    rw [x_left0 hk, bis, if_pos rfl, e, bis]
    rfl
  · rw [er_a rfl]
    exact q1
  · rw [sI_ne (by omega)] at q
    obtain ⟨q4, q5⟩ := q3 q
    rw [q4]
    exact q5
/-- behind a fault the way ends at once -/
theorem up_bad (hb : ¬ T.1 7 0 = 0) (hd : 1 ≤ d) (hg : 0 < g) : rl_Model_check_69 (RR nf d) nf g T e0 (nI fr) = some (0, 0, sI T 94 0 (nI fr)) := by
  obtain ⟨g', rfl⟩ : ∃ k, g = k + 1 := ⟨g - 1, by omega⟩
  obtain ⟨d', rfl⟩ : ∃ g, d = g + 1 := ⟨d - 1, by omega⟩
  have hb2 : ¬ (sI T 94 0 (nI fr)).1 7 0 = 0 := by rw [sI_ne (by omega)]; exact hb
  have xb : ∀ S : gSt, ¬ S.1 7 0 = 0 → RR nf (d' + 1) 14 S [] [] = some (1, 0, S) := fun S h => x_bd1 h
  rw [rl_Model_check_69]
  by_cases c : T.1 94 0 ≤ nI fr
  · rw [if_pos c]
    show bi (RR nf (d' + 1) 14 (sI T 94 0 (nI fr)) [] []) _ = _
    rw [xb _ hb2, bis, if_neg (by decide)]
  · rw [if_neg c, xb _ hb, bis, if_neg (by decide)]
    show bi (RR nf (d' + 1) 14 (sI T 94 0 (nI fr)) [] []) _ = _
    rw [xb _ hb2, bis, if_neg (by decide)]
theorem Fm.sp0 (hs : T.1 94 0 = nI s) (hs2 : s < 100000) (h60 : ∀ j, (j < lo ∨ hi ≤ j) → T'.1 60 j = T.1 60 j ∧ T'.1 61 j = T.1 61 j) (h48 : ∀ u, T'.1 48 u = T.1 48 u ∨ ∃ q, a ≤ q ∧ q < b ∧ T.1 47 u = nI (xP X q)) (h93 : ∀ j, j < s → T'.1 93 j = T.1 93 j) (h94 : T'.1 94 0 = nI s) : Fm X T T' lo hi a b := ⟨h60, h48, fun j hj => h93 j (by rw [hs, nc hs2] at hj; exact hj), h94.trans hs.symm⟩
theorem fe_left (hk : k = 3 ∨ k = 4 ∨ k = 5) (h0 : T.1 7 0 = 0) : FE (chk X ta 0 0 T).2.2.2 (chk X (tD k i e ta tb) 0 0 T).2.2.2 ∧ (¬ (chk X ta 0 0 T).2.2.2.1 7 0 = 0 → (chk X (tD k i e ta tb) 0 0 T).2.2.2 = (chk X ta 0 0 T).2.2.2) := by
  rw [chk_n, if_pos h0]
  rcases hk with rfl | rfl | rfl
  · show FE _ (tlC X (chk X ta) ta i T).2.2.2 ∧ (_ → (tlC X (chk X ta) ta i T).2.2.2 = _)
    unfold tlC
    dsimp only
    refine ⟨FE.ifr FE.th FE.rf, fun h => ?_⟩
    rw [if_neg h]
    rfl
  · show FE _ (exC X (chk X ta) (chk X tb) ta tb T).2.2.2 ∧ (_ → (exC X (chk X ta) (chk X tb) ta tb T).2.2.2 = _)
    unfold exC
    dsimp only
    refine ⟨FE.ifr (FE.ifr ((chk_fe tb 0 0 _).tr FE.ix) (chk_fe tb 0 0 _)) FE.rf, fun h => ?_⟩
    rw [if_neg h]
    rfl
  · show FE _ (bnC X (chk X ta) (chk X tb) ta tb (chK e) T).2.2.2 ∧ (_ → (bnC X (chk X ta) (chk X tb) ta tb (chK e) T).2.2.2 = _)
    unfold bnC
    dsimp only
    refine ⟨FE.ifr (FE.ifr ((chk_fe tb 0 0 _).tr FE.op) (chk_fe tb 0 0 _)) FE.rf, fun h => ?_⟩
    rw [if_neg h]
    rfl
/-- one node further up a spine -/
theorem ds_left (hnf : 8300 ≤ nf) (hk : k = 3 ∨ k = 4 ∨ k = 5) (hA : CkD nf X ta) (hra : RepM X T ta lo m y) (hwa : Wf X ta false a i) (hib : i ≤ b) (hbx : b ≤ xn X) (hlm : lo ≤ m) (hm : m < hi) (hhi : hi ≤ 8200) (h50 : T.1 50 m = 13 ∨ T.1 50 m = 14 ∨ T.1 50 m = 15 ∨ T.1 50 m = 16 ∨ T.1 50 m = 17) (h52 : T.1 52 m = y) (hC : Ck (er T)) (hs : T.1 94 0 = nI s) (hfr : fr ≤ s) (hss : s + (hi - lo) ≤ 8200) (hd : 6 * dpT ta + 19 ≤ d) (hUU : nU T ≤ 4000) (hfl : hi - lo < fl) (h0 : T.1 7 0 = 0) (hc : cn (chk X (tD k i e ta tb) 0 0 (er T)).2.2.2 < 6000) (hK : ∀ T1, SP T T1 → (∀ j, m < j → T1.1 61 j = T.1 61 j) → er T1 = (chk X ta 0 0 (er T)).2.2.2 → T1.1 7 0 = 0 → AnE X T1 ta lo m y (chk X ta 0 0 (er T)).1 (chk X ta 0 0 (er T)).2.1 (chk X ta 0 0 (er T)).2.2.1 → T1.1 94 0 = nI s → wp (RR nf d 87 T1 [nI m] []) (fun r _ T' => KR X (tD k i e ta tb) (chk X (tD k i e ta tb) 0 0 (er T)) T1 lo hi a b m r T')) : ∃ (T' : gSt) (g : Nat), DsQ nf X (tD k i e ta tb) T d lo hi a b fr fl (nI m) e0 T' g := by
  have zm : inb (nI m) 8200 := nin (by omega) (by omega)
  have cm : (nI m).toNatClampNeg = m := nc (by omega)
  have zs : inb (nI s) 8200 := nin (by omega) (by omega)
  have cs : (nI s).toNatClampNeg = s := nc (by omega)
  obtain ⟨fl', rfl⟩ : ∃ g, fl = g + 1 := ⟨fl - 1, by omega⟩
  have k0 : (er T).1 7 0 = 0 := h0
  obtain ⟨fL, fLb⟩ := fe_left (X := X) (ta := ta) (tb := tb) (i := i) (e := e) hk k0
  have fa := chk_fe (X := X) ta 0 0 (er T)
  have hcA := fL.lt (fa.tg hC.1) hc
  have e11 : er (sI (sI T 93 s (nI m)) 94 0 (nI (s + 1))) = er T := by rw [er_a rfl, er_a rfl]
  have sp11 : SP T (sI (sI T 93 s (nI m)) 94 0 (nI (s + 1))) := (SP.an rfl).tr (SP.an rfl)
  have n11 : ∀ g, g ≠ 93 → g ≠ 94 → (sI (sI T 93 s (nI m)) 94 0 (nI (s + 1))).1 g = T.1 g := fun g h1 h2 => by rw [sI_ne h2, sI_ne h1]
  have v94 : (sI (sI T 93 s (nI m)) 94 0 (nI (s + 1))).1 94 0 = nI (s + 1) := sI_v
  have v93 : ∀ j, (sI (sI T 93 s (nI m)) 94 0 (nI (s + 1))).1 93 j = if j = s then nI m else T.1 93 j := fun j => by
    rw [sI_ne (by omega), rdI]
    by_cases c : j = s
    · rw [if_pos ⟨rfl, c⟩, if_pos c]
    · rw [if_neg (fun h => c h.2), if_neg c]
  have step : rl_Model_check_16 (RR nf d) nf (fl' + 1) T e0 (nI fr) (nI m) = rl_Model_check_16 (RR nf d) nf fl' (sI (sI T 93 s (nI m)) 94 0 (nI (s + 1))) e0 (nI fr) y := by
    obtain ⟨d', rfl⟩ : ∃ g, d = g + 1 := ⟨d - 1, by omega⟩
    rw [rl_Model_check_16]
    simp only [gd, if_pos zm, cm]
    rw [x_left1 h50, bis, if_neg (by decide)]
    simp only [hs, if_pos zs, cs, stK, vK, nI_1]
    rw [sI_ne (g' := 94) (by omega), hs, nI_1, sI_ne (g' := 52) (by omega), sI_ne (g' := 52) (by omega), h52]
  generalize sI (sI T 93 s (nI m)) 94 0 (nI (s + 1)) = T11 at *
  have repA : RepM X T11 ta lo m y := RepM.kp hra sp11 (fun j _ _ => by rw [n11 61 (by omega) (by omega)])
  obtain ⟨T1, g1, q1, q2, q3, q4, q5, q6⟩ := hA T11 d lo m a i (s + 1) fr fl' y e0 repA (by omega) hwa (by omega) (by rw [e11]; exact hC) v94 (by omega) (by omega) hd (by rw [sp_nU sp11]; exact hUU) (by omega) (by rw [n11 7 (by omega) (by omega)]; exact h0) (by rw [e11]; exact hcA)
  rw [e11] at q4 q6
  have sp1 : SP T T1 := sp11.tr (SP.of (by rw [q4, e11]; exact fa))
  have t94 : T1.1 94 0 = nI (s + 1) := q5.2.2.2.trans v94
  have t93 : ∀ j, j ≤ s → T1.1 93 j = if j = s then nI m else T.1 93 j := fun j hj => by
    rw [q5.2.2.1 j (by rw [v94, nc (by omega)]; omega)]
    exact v93 j
  have e29 : er (sI T1 94 0 (nI s)) = er T1 := er_a rfl
  have n29 : ∀ g, g ≠ 94 → (sI T1 94 0 (nI s)).1 g = T1.1 g := fun g h => sI_ne h
  have fm29 : Fm X T (sI T1 94 0 (nI s)) lo hi a b := by
    refine Fm.sp0 hs (by omega) (fun j hj => ?_) (fun u => ?_) (fun j hj => ?_) sI_v
    · have := q5.1 j (by omega)
      rw [n11 60 (by omega) (by omega), n11 61 (by omega) (by omega)] at this
      rw [n29 60 (by omega), n29 61 (by omega)]
      exact this
    · rw [n29 48 (by omega)]
      rcases q5.2.1 u with h | ⟨q, h1, h2, h3⟩
      · left; rw [h, n11 48 (by omega) (by omega)]
      · right; exact ⟨q, h1, by omega, by rw [n11 47 (by omega) (by omega)] at h3; exact h3⟩
    · rw [n29 93 (by omega), t93 j (by omega), if_neg (by omega)]
  have sp29 : SP T (sI T1 94 0 (nI s)) := sp1.tr (SP.an rfl)
  by_cases c1 : ¬ T1.1 7 0 = 0
  · have c1' : ¬ (chk X ta 0 0 (er T)).2.2.2.1 7 0 = 0 := by rw [← q4]; exact c1
    have c29 : ¬ (sI T1 94 0 (nI s)).1 7 0 = 0 := by rw [n29 7 (by omega)]; exact c1
    refine ⟨sI T1 94 0 (nI s), g1, by omega, q2, ?_, ?_, fm29, fun q => absurd q c29⟩
    · rw [step, q3, up_bad c1 (by omega) (by omega), up_bad c29 (by omega) (by omega), sI_sI]
    · rw [e29, q4, fLb c1']
  have c1 := Decidable.not_not.mp c1
  have an1 := q6 c1
  have kp29 : Kp X T1 (sI T1 94 0 (nI s)) lo m a i := ⟨(SP.an rfl).toW.toX, fun j _ _ => by rw [n29 60 (by omega), n29 61 (by omega)]; exact ⟨rfl, rfl⟩, fun u _ _ _ _ => by rw [n29 48 (by omega)]⟩
  have an29 := AnE.kp (b := i) (by omega) ta false a i lo m y _ _ _ (Nat.le_refl _) hwa kp29 an1
  have w := hK (sI T1 94 0 (nI s)) sp29 (fun j hj => by
    have := (q5.1 j (by omega)).2
    rw [n11 61 (by omega) (by omega)] at this
    rw [n29 61 (by omega)]
    exact this) (by rw [e29]; exact q4) (by rw [n29 7 (by omega)]; exact c1) an29 sI_v
  obtain ⟨r, l, T8, e8, p1, p2, p3⟩ := w
  obtain ⟨g', rfl⟩ : ∃ k, g1 = k + 1 := ⟨g1 - 1, by omega⟩
  have sp8 : SP (sI T1 94 0 (nI s)) T8 := SP.of (by rw [p1, e29, q4]; exact fL)
  refine ⟨sI T8 60 m r, g', by omega, by omega, ?_, ?_, (fm29.tr p2 sp29).tr (Fm.t60 hlm hm) (sp29.tr sp8), fun q => ?_⟩
  · rw [step, q3]
    obtain ⟨d', rfl⟩ : ∃ g, d = g + 1 := ⟨d - 1, by omega⟩
    rw [rl_Model_check_69, t94, if_neg (fun h => by have := (nI_leI (a := s + 1) (b := fr) (by omega) (by omega)).mp h; omega), x_bd0 c1, bis, if_pos rfl, t94]
    have es : nI (s + 1) - 1 = nI s := by rw [← nI_1]; exact Int32.add_sub_cancel _ _
    rw [es]
    have v29 : (sI T1 94 0 (nI s)).1 94 0 = nI s := sI_v
    have w29 : (sI T1 94 0 (nI s)).1 93 s = nI m := by rw [n29 93 (by omega), t93 s (Nat.le_refl _), if_pos rfl]
    simp only [stK, gd, v29, if_pos zs, cs, vK, w29]
    rw [e8, bis, if_pos zm, cm]
  · rw [er_a rfl]
    exact p1
  · rw [sI_ne (by omega)] at q
    obtain ⟨p4, p5⟩ := p3 q
    rw [p4]
    exact p5
theorem ckE_of (hnf : 8300 ≤ nf) (h : CkD nf X t) : CkE nf X t := by
  intro T d lo hi a b s x hR hhi hw hbx hC hs hss hd hUU hc
  obtain ⟨d', rfl⟩ : ∃ g, d = g + 1 := ⟨d - 1, by omega⟩
  obtain ⟨m, m1, m2, m3, m4, m5⟩ := RepM_nd t _ _ _ _ _ hR hw
  by_cases c0 : ¬ T.1 7 0 = 0
  · obtain ⟨d2, rfl⟩ : ∃ g, d' = g + 1 := ⟨d' - 1, by omega⟩
    refine ⟨0, 0, T, x_chkb c0, ?_, Fm.rf, fun q => absurd q c0⟩
    rw [chk_bad (T := er T) c0]
    rfl
  have c0 := Decidable.not_not.mp c0
  obtain ⟨T', g, q1, q2, q3, q4, q5, q6⟩ := h T d' lo hi a b s s nf x x hR hhi hw hbx hC hs (Nat.le_refl _) hss (by omega) hUU (by omega) c0 hc
  have t94 : T'.1 94 0 = nI s := q5.2.2.2.trans hs
  have e1 : sI T' 94 0 (nI s) = T' := by rw [← t94]; exact sI_id
  have zm : inb (nI m) 8200 := nin (by omega) (by omega)
  have cm : (nI m).toNatClampNeg = m := nc (by omega)
  rw [e_Model_check nf d']
  unfold rb_Model_check
  obtain ⟨d2, rfl⟩ : ∃ g, d' = g + 1 := ⟨d' - 1, by omega⟩
  refine wp_be (x_bd0 c0) (wp_t rfl ?_)
  rw [hs]
  refine wp_v ?_
  rw [q3]
  obtain ⟨g', rfl⟩ : ∃ k, g = k + 1 := ⟨g - 1, by omega⟩
  rw [rl_Model_check_69]
  refine wp_t (by rw [t94]; exact (nI_leI (by omega) (by omega)).mpr (Nat.le_refl _)) (wp_st ?_)
  rw [e1]
  by_cases c1 : T'.1 7 0 = 0
  · refine wp_be (x_bd0 c1) (wp_t rfl ?_)
    rw [m1]
    refine wp_gd zm (wp_some ⟨q4, q5, fun q => ⟨?_, by rw [← m1]; exact q6 q⟩⟩)
    obtain ⟨m', a1, a2, a3, a4⟩ := AnE_ty t _ _ _ _ _ _ _ _ (q6 c1) hw
    have : m = m' := nI_inj (by omega) (by omega) (m1.symm.trans a1)
    subst this
    rw [cm]
    exact a4
  · exact wp_be (x_bd1 c1) (wp_f (by decide) (wp_some ⟨q4, q5, fun q => absurd q c1⟩))
end KJ
