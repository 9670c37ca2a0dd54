/-! single nodes, by their kinds -/
def KR (X : Lx) (t : Tr) (R : ChR) (T : gSt) (lo hi a b m : Nat) (r : Int32) (T' : gSt) : Prop := er T' = R.2.2.2 ∧ Fm X T T' lo hi a b ∧ (T'.1 7 0 = 0 → r = R.1 ∧ AnE X (sI T' 60 m R.1) t lo hi (nI m) R.1 R.2.1 R.2.2.1)
section KD
variable {nf d : Nat} {T T' T1 S : gSt} {X : Lx} {m n p u i k e l lo hi a b s f q v f0 c : Nat} {x y r w all z rg : Int32} {t ta tb : Tr} {nm : Int64}
theorem kd_f {g : Nat} (hm : m < 8200) (hg : (T.1 50 m = 4 ∧ g = 88) ∨ (T.1 50 m = 5 ∧ g = 95) ∨ (T.1 50 m = 6 ∧ g = 93) ∨ (T.1 50 m = 7 ∧ g = 93) ∨ (T.1 50 m = 8 ∧ g = 92) ∨ (T.1 50 m = 9 ∧ g = 92) ∨ (T.1 50 m = 10 ∧ g = 91) ∨ (T.1 50 m = 13 ∧ g = 96) ∨ (T.1 50 m = 14 ∧ g = 89) ∨ (T.1 50 m = 15 ∧ g = 90) ∨ (T.1 50 m = 16 ∧ g = 89) ∨ (T.1 50 m = 17 ∧ g = 89)) {Q : Int32 → Int64 → gSt → Prop} (h : wp (RR nf d g T [nI m] []) (fun r _ T' => Q r 0 T')) : wp (RR nf (d + 1) 87 T [nI m] []) Q := by
  have zm : inb (nI m) 8200 := nin (by omega) (by omega)
  have cm : (nI m).toNatClampNeg = m := nc (by omega)
  rw [e_Model_checkKind nf d]
  unfold rb_Model_checkKind
  refine wp_gd zm ?_
  rw [cm]
  rcases hg with ⟨h5, rfl⟩ | ⟨h5, rfl⟩ | ⟨h5, rfl⟩ | ⟨h5, rfl⟩ | ⟨h5, rfl⟩ | ⟨h5, rfl⟩ | ⟨h5, rfl⟩ | ⟨h5, rfl⟩ | ⟨h5, rfl⟩ | ⟨h5, rfl⟩ | ⟨h5, rfl⟩ | ⟨h5, rfl⟩
  all_goals
    rw [h5]
    refine wp_cast (show _ = bi (RR nf d _ T [nI m] []) (fun r l T' => some (r, 0, T')) from rfl) ?_
    refine wp_bi h ?_
    intro r _ T' hq
    exact wp_some hq
theorem Fm.rfl' : Fm X T T lo hi a b := Fm.rf
/-- leaves -/
theorem kd_1 (hnf : 8300 ≤ nf) (hR : RepM X T (tD 1 i e ta tb) lo hi x) (hhi : hi ≤ 8200) (hC : Ck (er T)) (h0 : T.1 7 0 = 0) (hc : cn (chk X (tD 1 i e ta tb) 0 0 (er T)).2.2.2 < 6000) : x = nI lo ∧ wp (RR nf (d + 4) 87 T [nI lo] []) (fun r _ T' => KR X (tD 1 i e ta tb) (chk X (tD 1 i e ta tb) 0 0 (er T)) T lo hi a b lo r T') := by
  rw [RepM_n] at hR
  unfold RpN at hR
  rw [if_pos rfl] at hR
  obtain ⟨h1, h2, h3, h4⟩ := hR
  refine ⟨h1, ?_⟩
  have zm : inb (nI lo) 8200 := nin (by omega) (by omega)
  have cm : (nI lo).toNatClampNeg = lo := nc (by omega)
  have eN : chk X (tD 1 i e ta tb) 0 0 (er T) = lfC X i (er T) := by
    rw [chk_n, if_pos (show (er T).1 7 0 = 0 from h0)]
    rfl
  rw [eN] at hc ⊢
  have w : ∀ (S : gSt) (y : Int32) (js : List T5), (∀ g, 50 ≤ g → g ≤ 59 → S.1 g lo = T.1 g lo) → (if xK X i = 5 then T.1 50 lo = 0 ∧ T.1 52 lo = (xN X i).toInt32 ∧ js = [j1 1 (xN X i).toInt32 0 0 0] else if xK X i = 27 then T.1 50 lo = 1 ∧ js = [j1 2 0 0 0 0] else if xK X i = 34 then T.1 50 lo = 2 ∧ js = [j1 3 0 0 0 0] else if xK X i = 35 then T.1 50 lo = 3 ∧ js = [j1 4 (S.1 61 lo) 0 0 0] else T.1 50 lo = 4 ∧ js = [j1 5 (S.1 61 lo) y 0 0]) → AnE X (sI S 60 lo y) (tD 1 i e ta tb) lo hi (nI lo) y 0 js := by
    intro S y js o hj
    show AnN X (sI S 60 lo y) (AnE X (sI S 60 lo y) ta) (AnE X (sI S 60 lo y) tb) 1 i e lo hi (nI lo) y 0 js
    unfold AnN
    rw [if_pos rfl, sI_v, sI_ne (g' := 50) (by omega), sI_ne (g' := 52) (by omega), sI_ne (g' := 61) (by omega), o 50 (by omega) (by omega), o 52 (by omega) (by omega)]
    exact ⟨rfl, by omega, rfl, rfl, hj⟩
  unfold lfC at hc ⊢
  by_cases c : xK X i = 5
  · simp only [if_pos c] at h4 hc ⊢
    rw [e_Model_checkKind nf (d + 3)]
    unfold rb_Model_checkKind
    refine wp_gd zm ?_
    rw [cm, h4.1]
    refine wp_t rfl (wp_some ⟨rfl, Fm.rf, fun _ => ⟨rfl, w T 0 _ (fun _ _ _ => rfl) ?_⟩⟩)
    rw [if_pos c]
    exact ⟨h4.1, h4.2, rfl⟩
  simp only [if_neg c] at h4 hc ⊢
  by_cases c2 : xK X i = 27
  · simp only [if_pos c2] at h4 hc ⊢
    rw [e_Model_checkKind nf (d + 3)]
    unfold rb_Model_checkKind
    refine wp_gd zm ?_
    rw [cm, h4]
    refine wp_f (by decide) (wp_t rfl (wp_some ⟨rfl, Fm.rf, fun _ => ⟨rfl, w T _ _ (fun _ _ _ => rfl) ?_⟩⟩))
    rw [if_neg c, if_pos c2]
    exact ⟨h4, rfl⟩
  simp only [if_neg c2] at h4 hc ⊢
  by_cases c3 : xK X i = 34
  · simp only [if_pos c3] at h4 hc ⊢
    rw [e_Model_checkKind nf (d + 3)]
    unfold rb_Model_checkKind
    refine wp_gd zm ?_
    rw [cm, h4]
    refine wp_f (by decide) (wp_f (by decide) (wp_t rfl (wp_some ⟨rfl, Fm.rf, fun _ => ⟨rfl, w T _ _ (fun _ _ _ => rfl) ?_⟩⟩)))
    rw [if_neg c, if_neg c2, if_pos c3]
    exact ⟨h4, rfl⟩
  simp only [if_neg c3] at h4 hc ⊢
  by_cases c4 : xK X i = 35
  · simp only [if_pos c4] at h4 hc ⊢
    rw [e_Model_checkKind nf (d + 3)]
    unfold rb_Model_checkKind
    refine wp_gd zm ?_
    rw [cm, h4, h3]
    refine wp_f (by decide) (wp_f (by decide) (wp_f (by decide) (wp_t rfl ?_)))
    by_cases c5 : T.1 87 0 = 0
    · have c5' : (er T).1 87 0 = 0 := c5
      simp only [if_pos c5', if_pos c5]
      have hb : ∀ y : Int32, ¬ (sI (flT T 8 (nI (xP X i))) 61 lo y).1 7 0 = 0 := fun y => by rw [sI_ne (by omega)]; exact flT_bad (by decide)
      refine wp_gd zm (wp_be x_fail (wp_gd zm (wp_st (wp_some ⟨?_, ?_, fun q => absurd q (hb _)⟩))))
      · rw [er_a rfl, er_fl]
        rfl
      · exact (Fm.nt nt_fl).tr (Fm.fd (Nat.le_refl _) (by omega)) (SP.fe (FE.fl (by decide)))
    · have c5' : ¬ (er T).1 87 0 = 0 := c5
      simp only [if_neg c5', if_neg c5]
      refine wp_gd zm (wp_st (wp_some ⟨er_a rfl, Fm.fd (Nat.le_refl _) (by omega), fun _ => ⟨rfl, w _ _ _ (fun g g1 g2 => by rw [sI_ne (by omega)]) ?_⟩⟩))
      rw [if_neg c, if_neg c2, if_neg c3, if_pos c4, sI_v]
      exact ⟨h4, rfl⟩
  simp only [if_neg c4] at h4 hc ⊢
  refine kd_f (d := d + 3) (by omega) (Or.inl ⟨h4.1, rfl⟩) ?_
  refine wp_mono (x_nm hC (by omega) (by omega) h4.2.1 h3 h0 hc) ?_
  rintro r _ T' ⟨q1, q2, q3⟩
  have sp : SP T T' := SP.of (by rw [q1]; exact FE.nm)
  refine ⟨q1, Fm.a1 q2 (Nat.le_refl _) (by omega), fun q => ⟨(q3 q).1, w _ _ _ (fun g g1 g2 => by rw [sp.1 g (by omega) (by unfold anF; simp; omega)]) ?_⟩⟩
  rw [if_neg c, if_neg c2, if_neg c3, if_neg c4, (q3 q).2]
  exact ⟨h4.1, rfl⟩
theorem AnE_n {ty tl : Int32} {js : List T5} : AnE X T (tD k i e ta tb) lo hi x ty tl js = AnN X T (AnE X T ta) (AnE X T tb) k i e lo hi x ty tl js := rfl
/-- a call -/
theorem kd_6 (hx : PI X) (hX : xn X ≤ 4000) (hnf : 8300 ≤ nf) (hL : CkL nf X ta) (hR : RepM X T (tD 6 i e ta tb) lo hi x) (hhi : hi ≤ 8200) (hw : Wf X (tD 6 i e ta tb) false a b) (hbx : b ≤ xn X) (hC : Ck (er T)) (hs : T.1 94 0 = nI s) (hss : s + (hi - lo) ≤ 8200) (hd : 6 * dpT ta + 24 ≤ d) (hUU : nU T ≤ 4000) (h0 : T.1 7 0 = 0) (hc : cn (chk X (tD 6 i e ta tb) 0 0 (er T)).2.2.2 < 6000) : x = nI lo ∧ lo < hi ∧ T.1 50 lo = 5 ∧ wp (RR nf d 87 T [nI lo] []) (fun r _ T' => KR X (tD 6 i e ta tb) (chk X (tD 6 i e ta tb) 0 0 (er T)) T lo hi a b lo r T') := by
  rw [RepM_n] at hR
  unfold RpN at hR
  simp only [if_neg (show ¬ (6 = 1) by omega), if_neg (show ¬ (6 = 2) by omega), if_neg (show ¬ (6 = 3) by omega), if_neg (show ¬ (6 = 4) by omega), if_neg (show ¬ (6 = 5) by omega), if_pos (rfl : 6 = 6)] at hR
  obtain ⟨u, z, r1, r2, r3, r4, r5, r6, r7, r8, r9, r10, r11⟩ := hR
  rw [Wf_n] at hw
  unfold WfN at hw
  simp only [if_neg (show ¬ (false = true) by decide), if_neg (show ¬ (6 = 1) by omega), if_neg (show ¬ (6 = 2) by omega), if_neg (show ¬ (6 = 3) by omega), if_neg (show ¬ (6 = 4) by omega), if_neg (show ¬ (6 = 5) by omega), if_pos (rfl : 6 = 6)] at hw
  obtain ⟨w1, w2, c, w3, w4⟩ := hw
  refine ⟨r1, r2, r4, ?_⟩
  have eN : chk X (tD 6 i e ta tb) 0 0 (er T) = clC X (chk X ta) ta i e (er T) := by
    rw [chk_n, if_pos (show (er T).1 7 0 = 0 from h0)]
    rfl
  rw [eN] at hc ⊢
  obtain ⟨d', rfl⟩ : ∃ g, d = g + 2 := ⟨d - 2, by omega⟩
  refine kd_f (d := d' + 1) (by omega) (Or.inr (Or.inl ⟨r4, rfl⟩)) ?_
  refine wp_mono (x_cl (c := c) (s := s) (a := a) (b := b) hx hX hnf hL w4 r3 r2 hhi r6 r7 r8 r9 r10 r11 w2 w1 w3 hbx hC hs hss (by omega) hUU h0 hc) ?_
  rintro r _ T' ⟨q1, q2, q3⟩
  refine ⟨q1, q2, fun q => ⟨(q3 q).1, ?_⟩⟩
  obtain ⟨-, l0, w, p1, p2, p3, p4⟩ := q3 q
  have sp : SP T T' := SP.of (by rw [q1]; exact fe_cl (chk_fe ta))
  have le := Wf_le2 w3
  rw [AnE_n]
  unfold AnN
  simp only [if_neg (show ¬ (6 = 1) by omega), if_neg (show ¬ (6 = 2) by omega), if_neg (show ¬ (6 = 3) by omega), if_neg (show ¬ (6 = 4) by omega), if_neg (show ¬ (6 = 5) by omega), if_pos (rfl : 6 = 6)]
  refine ⟨u, z, l0, w, trivial, r2, AnE.kp (b := c) (by omega) ta true _ c (lo + 1) hi z 0 0 l0 (Nat.le_refl _) w3 (Kp.t60 (by omega)) p1, ?_, ?_, ?_, RepU.sp (sp.tr (SP.an rfl)) r9, fun j hj => ?_, ?_, p4, ?_⟩
  · rw [sI_ne (by omega), sp.1 50 (by omega) rfl]; exact r4
  · rw [sI_ne (by omega), sp.1 58 (by omega) rfl]; exact r7
  · rw [sI_ne (by omega), sp.1 52 (by omega) rfl]; exact r10
  · rw [sI_ne (by omega)]; exact p2 j hj
  · rw [sI_v]
  · rw [sI_ne (by omega)]; exact p3
/-- new -/
theorem kd_7 (hx : PI X) (hX : xn X ≤ 4000) (hnf : 8300 ≤ nf) (hE : CkE nf X ta) (hL : CkL nf X ta) (hR : RepM X T (tD 7 i e ta tb) lo hi x) (hhi : hi ≤ 8200) (hw : Wf X (tD 7 i e ta tb) false a b) (hbx : b ≤ xn X) (hC : Ck (er T)) (hs : T.1 94 0 = nI s) (hss : s + (hi - lo) ≤ 8200) (hd : 6 * dpT ta + 24 ≤ d) (hUU : nU T ≤ 4000) (h0 : T.1 7 0 = 0) (hc : cn (chk X (tD 7 i e ta tb) 0 0 (er T)).2.2.2 < 6000) : x = nI lo ∧ lo < hi ∧ (T.1 50 lo = 6 ∨ T.1 50 lo = 7) ∧ wp (RR nf d 87 T [nI lo] []) (fun r _ T' => KR X (tD 7 i e ta tb) (chk X (tD 7 i e ta tb) 0 0 (er T)) T lo hi a b lo r T') := by
  rw [RepM_n] at hR
  unfold RpN at hR
  simp only [if_neg (show ¬ (7 = 1) by omega), if_neg (show ¬ (7 = 2) by omega), if_neg (show ¬ (7 = 3) by omega), if_neg (show ¬ (7 = 4) by omega), if_neg (show ¬ (7 = 5) by omega), if_neg (show ¬ (7 = 6) by omega), if_pos (rfl : 7 = 7)] at hR
  obtain ⟨u, v, z, r1, r2, r3, r4, r5, r6, r7, r8, r9, r10⟩ := hR
  rw [Wf_n] at hw
  unfold WfN at hw
  simp only [if_neg (show ¬ (false = true) by decide), if_neg (show ¬ (7 = 1) by omega), if_neg (show ¬ (7 = 2) by omega), if_neg (show ¬ (7 = 3) by omega), if_neg (show ¬ (7 = 4) by omega), if_neg (show ¬ (7 = 5) by omega), if_neg (show ¬ (7 = 6) by omega), if_pos (rfl : 7 = 7)] at hw
  obtain ⟨w1, w2, c, w3, w4⟩ := hw
  have h50 : T.1 50 lo = 6 ∨ T.1 50 lo = 7 := by
    by_cases g : xK X (i + 3 + e) = 49
    · rw [if_pos g] at r10; exact Or.inr r10.1
    · rw [if_neg g] at r10; exact Or.inl r10.1
  refine ⟨r1, r2, h50, ?_⟩
  have eN : chk X (tD 7 i e ta tb) 0 0 (er T) = nwC X (chk X ta) ta i e (er T) := by
    rw [chk_n, if_pos (show (er T).1 7 0 = 0 from h0)]
    rfl
  rw [eN] at hc ⊢
  obtain ⟨d', rfl⟩ : ∃ g, d = g + 2 := ⟨d - 2, by omega⟩
  refine kd_f (d := d' + 1) (g := 93) (by omega) (by rcases h50 with h | h; exact Or.inr (Or.inr (Or.inl ⟨h, rfl⟩)); exact Or.inr (Or.inr (Or.inr (Or.inl ⟨h, rfl⟩)))) ?_
  refine wp_mono (x_nw (c := c) (s := s) (a := a) (b := b) hnf hx hX hE hL hbx w4 (show NwR X T ta lo hi i e z from r10) r2 hhi r4 r5 r6 r7 r8 r9 w2 w1 w3 hC hs hss (by omega) hUU h0 hc) ?_
  rintro r _ T' ⟨q1, q2, q3⟩
  refine ⟨q1, q2, fun q => ⟨(q3 q).1, ?_⟩⟩
  obtain ⟨-, p1, p2⟩ := q3 q
  have sp : SP T T' := SP.of (by rw [q1]; exact fe_nw (chk_fe ta))
  have o : ∀ g m, 50 ≤ g → g ≤ 59 → (sI T' 60 lo (nwC X (chk X ta) ta i e (er T)).1).1 g m = T.1 g m := fun g m g1 g2 => by rw [sI_ne (by omega), sp.1 g (by omega) (by unfold anF; simp; omega)]
  rw [AnE_n]
  unfold AnN
  simp only [if_neg (show ¬ (7 = 1) by omega), if_neg (show ¬ (7 = 2) by omega), if_neg (show ¬ (7 = 3) by omega), if_neg (show ¬ (7 = 4) by omega), if_neg (show ¬ (7 = 5) by omega), if_neg (show ¬ (7 = 6) by omega), if_pos (rfl : 7 = 7)]
  by_cases g : xK X (i + 3 + e) = 49
  · rw [if_pos g] at r10 w3 p2
    obtain ⟨t0, u0, l0, p3, p4⟩ := p2
    obtain ⟨s1, s2, s3, s4, s5, s6, s7⟩ := r10
    have le := Wf_le2 w3
    refine ⟨v, z, t0, u0, l0, trivial, r2, by rw [o 54 lo (by omega) (by omega)]; exact r4, RepU.sp (sp.tr (SP.an rfl)) r5, by rw [sI_v], p1, ?_⟩
    rw [if_pos g]
    exact ⟨by rw [o 50 lo (by omega) (by omega)]; exact s1, by rw [o 52 lo (by omega) (by omega)]; exact s2, s3, by rw [o 52 (lo + 1) (by omega) (by omega)]; exact s6, AnE.kp (b := c) (by omega) ta false _ c (lo + 2) hi z _ _ _ (Nat.le_refl _) w3 (Kp.t60 (by omega)) p3, by rw [sI_ne (g' := 48) (by omega), sI_ne (g' := 61) (by omega)]; exact p4⟩
  · rw [if_neg g] at r10 w3 p2
    obtain ⟨l0, p3, p4⟩ := p2
    obtain ⟨s1, s2, s3, s4, s5⟩ := r10
    have le := Wf_le2 w3
    refine ⟨v, z, 0, 0, l0, trivial, r2, by rw [o 54 lo (by omega) (by omega)]; exact r4, RepU.sp (sp.tr (SP.an rfl)) r5, by rw [sI_v], p1, ?_⟩
    rw [if_neg g]
    exact ⟨by rw [o 50 lo (by omega) (by omega)]; exact s1, by rw [o 52 lo (by omega) (by omega)]; exact s3, AnE.kp (b := c) (by omega) ta true _ c (lo + 1) hi z _ _ _ (Nat.le_refl _) w3 (Kp.t60 (by omega)) p3, by rw [sI_ne (g' := 48) (by omega)]; exact p4⟩
end KD
