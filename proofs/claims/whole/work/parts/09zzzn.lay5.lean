/-! the code of EXPRS: all of them -/
def lyAB (F : gF) (T : gSt) (z : Int32) : gR := gd (inb z 8200) <| bi (F 103 T [T.1 52 z.toNatClampNeg] []) fun _ _ T56 => gd (inb z 8200) <| if (T56.1 50 z.toNatClampNeg) = (15 : Int32) then (gd (inb z 8200) <| bi (F 103 T56 [T56.1 53 z.toNatClampNeg] []) fun _ _ T62 => bi (F 97 T62 [(9 : Int32), (0 : Int32), (0 : Int32), (0 : Int32)] []) fun _ _ T63 => some (0, 0, T63))
    else (gd (inb z 8200) <| bi (F 97 T56 [(7 : Int32), T56.1 61 z.toNatClampNeg, (0 : Int32), (0 : Int32)] []) fun _ _ T60 => some (0, 0, T60))
def LyA (nf : Nat) (X : Lx) (t : Tr) : Prop := ∀ (T : gSt) (d lo hi a b s n : Nat) (x ty tl : Int32) (js : List T5) (j : T5), AnE X T t lo hi x ty tl js → hi ≤ 8200 → Wf X t false a b → b ≤ xn X → amT X t → jGs T js → (tkd X t = 14 ∨ tkd X t = 15) → LyP T s n → s + (hi - lo) ≤ 8200 → 6 * dpT t + 20 ≤ d → j.1 = 7 → n + (ksE (js ++ [j])).length ≤ 12000 → wp (lyAB (RR nf d) T x) (fun _ _ T' => LyR T T' n (ksE (js ++ [j])))
section LYF
variable {nf d : Nat} {T T' T1 T2 S : gSt} {X : Lx} {n n' m k p q u lo hi a b c s fr fl i e g : Nat} {x y z w v ty tl t0 : Int32} {j l : T5} {js ks l0 l2 : List T5} {t ta tb : Tr}
theorem ay_n (hA : LyX nf X ta) (hAA : LyA nf X ta) (hB : LyX nf X tb) : LyA nf X (tD k i e ta tb) := by
  intro T d lo hi a b s n x ty tl js j h hhi hw hbx ham hj htk hP hss hd hj7 hlen
  rw [AnE_n] at h
  rw [Wf_n] at hw
  rw [amT_n] at ham
  obtain ⟨am1, am2, am3⟩ := ham
  rw [tkd_n] at htk
  rw [dpT_n] at hd
  unfold AnN at h
  unfold WfN at hw
  rw [if_neg (by decide)] at hw
  by_cases c2 : k = 2
  · rw [if_neg (by omega), if_pos c2] at h hw
    rw [if_pos c2] at htk
    rw [if_pos (by omega)] at hd
    obtain ⟨c1, w1, w2, w3⟩ := hw
    exact hAA T d lo hi (a + 1) c1 s n x ty tl js j h hhi w2 (by omega) (am1 (by omega)) hj htk hP hss (by omega) hj7 hlen
  rw [if_neg c2] at htk
  by_cases c3 : k = 3
  · rw [if_neg (by omega), if_neg c2, if_pos c3] at h hw
    rw [if_neg (by omega), if_pos c3] at htk
    rw [if_pos (by omega)] at hd
    by_cases k49 : xK X i = 49
    · obtain ⟨m, y, t0, l0, rfl, r2, r3, r4, r5, r6, r7⟩ := h
      rw [if_pos k49] at r7
      obtain ⟨h50, rfl⟩ := r7
      have n7 : ¬ (j1 6 (T.1 61 m) tl ty 0).1 = 7 := by show ¬ (6 : Int32) = 7; decide
      rw [ksE_7 hj7 n7] at hlen ⊢
      rw [List.length_append] at hlen
      replace hlen : n + ((ksE l0).length + 1) ≤ 12000 := hlen
      have zm : inb (nI m) 8200 := nin (by omega) (by omega)
      have cm : (nI m).toNatClampNeg = m := nc (by omega)
      have := Wf_le2 hw.1
      obtain ⟨r, v, T1, f1, w1⟩ := (hA T d lo m a i s n y tl t0 l0 r4 (by omega) hw.1 (by omega) (am1 (by omega)) hj.lft hP (by omega) (by omega) (by omega)).2
      obtain ⟨d', rfl⟩ : ∃ g, d = g + 1 := ⟨d - 1, by omega⟩
      unfold lyAB
      simp only [gd, if_pos zm, cm]
      rw [r5, f1, bis, w1.1.o (k := 50) (by omega), h50, if_neg (by decide), x_lay w1.1.2.1 (by omega), bis]
      refine wp_some (LyR.tr w1 (LyR.one (j := ajj _ j) ?_ ?_))
      · show ¬ (7 : Int32) = 18
        decide
      · show _ = (7, T.1 61 m, 0, 0)
        rw [w1.1.o (k := 61) (by omega)]
    · rw [if_neg k49] at htk
      exfalso
      split at htk <;> omega
  by_cases c4 : k = 4
  · rw [if_neg (by omega), if_neg c2, if_neg c3, if_pos c4] at h hw
    rw [if_neg (by omega), if_pos (by omega)] at hd
    obtain ⟨m, y, z, t0, l0, u1, u2, l2, rfl, r2, r3, r4, r5, r6, r7, h50, r9, rfl⟩ := h
    obtain ⟨w1, c1, w2, w3⟩ := hw
    have kB := (AnE_kg _ _ _ _ _ _ _ _ _ _ r5 w2 (am2 (by omega))).1
    have n7 : ¬ (j1 8 tl ty 0 0).1 = 7 := by show ¬ (8 : Int32) = 7; decide
    rw [ksE_7 hj7 n7, ksE_ap kB] at hlen ⊢
    rw [List.length_append, List.length_append] at hlen
    replace hlen : n + ((ksE l0).length + (ksE l2).length + 1) ≤ 12000 := hlen
    have zm : inb (nI m) 8200 := nin (by omega) (by omega)
    have cm : (nI m).toNatClampNeg = m := nc (by omega)
    have := Wf_le2 w1
    have := Wf_le2 w2
    obtain ⟨r, v, T1, f1, q1⟩ := (hA T d lo m a i s n y tl t0 l0 r4 (by omega) w1 (by omega) (am1 (by omega)) hj.lft.lft hP (by omega) (by omega) (by omega)).2
    obtain ⟨r', v', T2, f2, q2⟩ := (hB T1 d (m + 1) hi (i + 1) c1 s (n + (ksE l0).length) z u1 u2 l2 (r5.lf q1.1 w2 (by omega)) (by omega) w2 (by omega) (am2 (by omega)) (hj.lft.rgt.lf q1.1) (hP.lf q1.1) (by omega) (by omega) (by omega)).2
    have q3 := LyR.tr q1 q2
    obtain ⟨d', rfl⟩ : ∃ g, d = g + 1 := ⟨d - 1, by omega⟩
    unfold lyAB
    simp only [gd, if_pos zm, cm]
    rw [r6, f1, bis, q1.1.o (k := 50) (by omega), h50, if_pos rfl, q1.1.o (k := 53) (by omega), r7, f2, bis, x_lay q3.1.2.1 (by rw [List.length_append]; omega), bis]
    refine wp_some (LyR.tr q3 (LyR.one (j := ajj _ j) ?_ ?_))
    · show ¬ (9 : Int32) = 18
      decide
    · rfl
  rw [if_neg c3, if_neg c4] at htk
  exfalso
  repeat' split at htk
  all_goals omega
theorem x_ly (hx : xn X ≤ 4000) (hnf : 8300 ≤ nf) (t : Tr) : LyD nf X t ∧ LyS nf X t ∧ LyA nf X t := by
  induction t using Tr_ind with
  | hz t hz =>
    refine ⟨?_, sy_z hz, ?_⟩
    · intro T d lo hi a b s fr fl n x ty tl js h hhi hw
      exfalso
      unfold Wf at hw
      split at hw
      · rename_i k i e a b
        exact absurd rfl (hz k i e a b)
      · exact absurd hw.1 (by decide)
      · exact hw.elim
    · intro T d lo hi a b s n x ty tl js j h hhi hw
      exfalso
      unfold Wf at hw
      split at hw
      · rename_i k i e a b
        exact absurd rfl (hz k i e a b)
      · exact absurd hw.1 (by decide)
      · exact hw.elim
  | h k i e ta tb ihA ihB =>
    have eA := lyX_of hnf ihA.1
    have eB := lyX_of hnf ihB.1
    refine ⟨?_, sy_n eA ihB.2.1, ay_n eA ihA.2.2 eB⟩
    intro T d lo hi a b s fr fl n x ty tl js h hhi hw hbx ham hj hP hfr hss hd hfl hlen
    refine ⟨(AnE_kg _ _ _ _ _ _ _ _ _ _ h hw ham).1, ?_⟩
    rw [AnE_n] at h
    rw [Wf_n] at hw
    rw [amT_n] at ham
    obtain ⟨am1, am2, am3⟩ := ham
    rw [dpT_n] at hd
    unfold AnN at h
    unfold WfN at hw
    rw [if_neg (by decide)] at hw
    by_cases c : k = 1
    · rw [if_pos c] at h
      obtain ⟨rfl, r2, r3, r4, r5⟩ := h
      obtain ⟨d', rfl⟩ : ∃ g, d = g + 2 := ⟨d - 2, by omega⟩
      have gt : ∀ p : Nat, p < 13 → ¬ (nI p = 13) ∧ ¬ (nI p = 14) ∧ ¬ (nI p = 15) ∧ ¬ (nI p = 16) ∧ ¬ (nI p = 17) := fun p hp => ⟨fun h => by have := nI_inj (b := 13) (by omega) (by omega) h; omega, fun h => by have := nI_inj (b := 14) (by omega) (by omega) h; omega, fun h => by have := nI_inj (b := 15) (by omega) (by omega) h; omega, fun h => by have := nI_inj (b := 16) (by omega) (by omega) h; omega, fun h => by have := nI_inj (b := 17) (by omega) (by omega) h; omega⟩
      by_cases k5 : xK X i = 5
      · rw [if_pos k5] at r5
        obtain ⟨h50, h52, rfl⟩ := r5
        rw [ksE_1 (by show ¬ (1 : Int32) = 7; decide)] at hlen ⊢
        refine ly_first (by omega) (by omega) r2 (by rw [h50]; exact gt 0 (by omega)) ?_ (by omega)
        rw [← h52]
        exact lf_0 (by omega) h50 hP hlen
      rw [if_neg k5] at r5
      by_cases k27 : xK X i = 27
      · rw [if_pos k27] at r5
        obtain ⟨h50, rfl⟩ := r5
        rw [ksE_1 (by show ¬ (2 : Int32) = 7; decide)] at hlen ⊢
        exact ly_first (by omega) (by omega) r2 (by rw [h50]; exact gt 1 (by omega)) (lf_1 (by omega) h50 hP hlen) (by omega)
      rw [if_neg k27] at r5
      by_cases k34 : xK X i = 34
      · rw [if_pos k34] at r5
        obtain ⟨h50, rfl⟩ := r5
        rw [ksE_1 (by show ¬ (3 : Int32) = 7; decide)] at hlen ⊢
        exact ly_first (by omega) (by omega) r2 (by rw [h50]; exact gt 2 (by omega)) (lf_2 (by omega) h50 hP hlen) (by omega)
      rw [if_neg k34] at r5
      by_cases k35 : xK X i = 35
      · rw [if_pos k35] at r5
        obtain ⟨h50, rfl⟩ := r5
        rw [ksE_1 (by show ¬ (4 : Int32) = 7; decide)] at hlen ⊢
        exact ly_first (by omega) (by omega) r2 (by rw [h50]; exact gt 3 (by omega)) (lf_3 (by omega) h50 hP hlen) (by omega)
      rw [if_neg k35] at r5
      obtain ⟨h50, rfl⟩ := r5
      rw [ksE_1 (by show ¬ (5 : Int32) = 7; decide)] at hlen ⊢
      exact ly_first (by omega) (by omega) r2 (by rw [h50]; exact gt 4 (by omega)) (lf_4 (by omega) h50 hP hlen) (by omega)
    rw [if_neg c] at h hw; clear c
    by_cases c : k = 2
    · rw [if_pos c] at h hw
      rw [if_pos (by omega)] at hd
      obtain ⟨c1, w1, w2, w3⟩ := hw
      exact (ihA.1 T d lo hi (a + 1) c1 s fr fl n x ty tl js h hhi w2 (by omega) (am1 (by omega)) hj hP hfr hss (by omega) hfl hlen).2
    rw [if_neg c] at h hw; clear c
    by_cases c : k = 3
    · rw [if_pos c] at h hw
      rw [if_pos (by omega)] at hd
      obtain ⟨m, y, t0, l0, rfl, r2, r3, r4, r5, r6, r7⟩ := h
      have := Wf_le2 hw.1
      obtain ⟨q, rfl, q1, q2, q3⟩ := AnE_ty _ _ _ _ _ _ _ _ _ r4 hw.1
      obtain ⟨d', rfl⟩ : ∃ g, d = g + 2 := ⟨d - 2, by omega⟩
      by_cases k49 : xK X i = 49
      · rw [if_pos k49] at r7
        obtain ⟨h50, rfl⟩ := r7
        rw [ksE_j (by decide)] at hlen ⊢
        rw [List.length_append] at hlen
        replace hlen : n + ((ksE l0).length + 1) ≤ 12000 := hlen
        refine (ly_left ihA.1 r4 hw.1 (by omega) (am1 (by omega)) hj.lft r2 (by omega) hhi (Or.inr (Or.inl h50)) r5 hP hfr hss (by omega) hfl hnf (by omega) (fun T1 hF => ?_)).2
        have := lb_14 (d := d') (nf := nf) (T := T1) (m := m) (q := q) (tl := tl) (ty := ty) (s := s) (n := n + (ksE l0).length) (by omega) (by rw [hF.o (k := 50) (by omega)]; exact h50) (by rw [hF.o (k := 52) (by omega)]; exact r5) (by omega) (by rw [hF.o (k := 60) (by omega)]; exact q3) (by rw [hF.o (k := 61) (by omega)]; exact (hj.rgt.lf hF).one) (hP.lf hF) (by omega)
        rw [hF.o (k := 61) (by omega)] at this
        exact this
      rw [if_neg k49] at r7
      by_cases k61 : xK X i = 61
      · rw [if_pos k61] at r7
        obtain ⟨h50, rfl⟩ := r7
        rw [ksE_j (by decide)] at hlen ⊢
        rw [List.length_append] at hlen
        replace hlen : n + ((ksE l0).length + 1) ≤ 12000 := hlen
        exact (ly_left ihA.1 r4 hw.1 (by omega) (am1 (by omega)) hj.lft r2 (by omega) hhi (Or.inr (Or.inr (Or.inr (Or.inl h50)))) r5 hP hfr hss (by omega) hfl hnf (by omega) (fun T1 hF => lb_16 (by omega) (by rw [hF.o (k := 50) (by omega)]; exact h50) (hP.lf hF) (by omega))).2
      rw [if_neg k61] at r7
      obtain ⟨h50, rfl⟩ := r7
      rw [ksE_j (by decide)] at hlen ⊢
      rw [List.length_append] at hlen
      replace hlen : n + ((ksE l0).length + 1) ≤ 12000 := hlen
      refine (ly_left ihA.1 r4 hw.1 (by omega) (am1 (by omega)) hj.lft r2 (by omega) hhi (Or.inr (Or.inr (Or.inr (Or.inr h50)))) r5 hP hfr hss (by omega) hfl hnf (by omega) (fun T1 hF => ?_)).2
      have := lb_17 (d := d') (nf := nf) (T := T1) (m := m) (tl := tl) (ty := ty) (s := s) (n := n + (ksE l0).length) (by omega) (by rw [hF.o (k := 50) (by omega)]; exact h50) (hP.lf hF) (by omega)
      rw [hF.o (k := 61) (by omega)] at this
      exact this
    rw [if_neg c] at h hw; clear c
    by_cases c : k = 4
    · rw [if_pos c] at h hw
      rw [if_neg (by omega), if_pos (by omega)] at hd
      obtain ⟨m, y, z, t0, l0, u1, u2, l2, rfl, r2, r3, r4, r5, r6, r7, h50, r9, rfl⟩ := h
      obtain ⟨w1, c1, w2, w3⟩ := hw
      have := Wf_le2 w1
      have := Wf_le2 w2
      have kB := (AnE_kg _ _ _ _ _ _ _ _ _ _ r5 w2 (am2 (by omega))).1
      obtain ⟨d', rfl⟩ : ∃ g, d = g + 2 := ⟨d - 2, by omega⟩
      rw [ksE_j (by decide), ksE_ap kB, List.append_assoc] at hlen ⊢
      rw [List.length_append, List.length_append] at hlen
      replace hlen : n + ((ksE l0).length + ((ksE l2).length + 1)) ≤ 12000 := hlen
      exact (ly_left ihA.1 r4 w1 (by omega) (am1 (by omega)) hj.lft.lft r2 (by omega) hhi (Or.inr (Or.inr (Or.inl h50))) r6 hP hfr hss (by omega) hfl hnf (by omega) (fun T1 hF => lb_15 (by omega) (by rw [hF.o (k := 50) (by omega)]; exact h50) (by rw [hF.o (k := 53) (by omega)]; exact r7) (by omega) (eB T1 (d' + 1) (m + 1) hi (i + 1) c1 s (n + (ksE l0).length) z u1 u2 l2 (r5.lf hF w2 (by omega)) (by omega) w2 (by omega) (am2 (by omega)) (hj.lft.rgt.lf hF) (hP.lf hF) (by omega) (by omega) (by omega)).2)).2
    rw [if_neg c] at h hw; clear c
    by_cases c : k = 5
    · rw [if_pos c] at h hw
      rw [if_neg (by omega), if_pos (by omega)] at hd
      obtain ⟨m, y, z, t0, l0, u1, u2, l2, rfl, r2, r3, r4, r5, r6, r7, h50, r9, r10, rfl⟩ := h
      obtain ⟨w1, w2⟩ := hw
      have := Wf_le2 w1
      have := Wf_le2 w2
      obtain ⟨q, rfl, q1, q2, q3⟩ := AnE_ty _ _ _ _ _ _ _ _ _ r4 w1
      have kB := (AnE_kg _ _ _ _ _ _ _ _ _ _ r5 w2 (am2 (by omega))).1
      obtain ⟨d', rfl⟩ : ∃ g, d = g + 2 := ⟨d - 2, by omega⟩
      rw [ksE_j (by decide), ksE_ap kB, List.append_assoc] at hlen ⊢
      rw [List.length_append, List.length_append] at hlen
      replace hlen : n + ((ksE l0).length + ((ksE l2).length + 1)) ≤ 12000 := hlen
      refine (ly_left ihA.1 r4 w1 (by omega) (am1 (by omega)) hj.lft.lft r2 (by omega) hhi (Or.inl h50) r6 hP hfr hss (by omega) hfl hnf (by omega) (fun T1 hF => ?_)).2
      exact lb_13 (q := q) (by omega) (by rw [hF.o (k := 50) (by omega)]; exact h50) (by rw [hF.o (k := 53) (by omega)]; exact r7) (by rw [hF.o (k := 54) (by omega)]; exact r9) (by rw [hF.o (k := 52) (by omega)]; exact r6) (by omega) (by rw [hF.o (k := 60) (by omega)]; exact q3) (by rw [hF.o (k := 60) (by omega)]; exact r10.symm) ((hj.rgt.lf hF).one.2.2 rfl).1 (hP.lf hF).2.2.2.2 (by omega) (eB T1 (d' + 1) (m + 1) hi (i + 1) b s (n + (ksE l0).length) z u1 u2 l2 (r5.lf hF w2 (by omega)) (by omega) w2 (by omega) (am2 (by omega)) (hj.lft.rgt.lf hF) (hP.lf hF) (by omega) (by omega) (by omega)).2
    rw [if_neg c] at h hw; clear c
    have k69 : k = 6 ∨ k = 7 ∨ k = 8 ∨ k = 9 := by
      by_cases q : k = 6 ∨ k = 7 ∨ k = 8 ∨ k = 9
      · exact q
      · rw [if_neg (by omega), if_neg (by omega), if_neg (by omega), if_neg (by omega)] at hw
        exact hw.elim
    rw [if_neg (by omega), if_neg (by omega)] at hd
    have gt : ∀ p : Nat, p < 13 → ¬ (nI p = 13) ∧ ¬ (nI p = 14) ∧ ¬ (nI p = 15) ∧ ¬ (nI p = 16) ∧ ¬ (nI p = 17) := fun p hp => ⟨fun h => by have := nI_inj (b := 13) (by omega) (by omega) h; omega, fun h => by have := nI_inj (b := 14) (by omega) (by omega) h; omega, fun h => by have := nI_inj (b := 15) (by omega) (by omega) h; omega, fun h => by have := nI_inj (b := 16) (by omega) (by omega) h; omega, fun h => by have := nI_inj (b := 17) (by omega) (by omega) h; omega⟩
    obtain ⟨d', rfl⟩ : ∃ g, d = g + 2 := ⟨d - 2, by omega⟩
    have aA : amT X ta := am1 (by omega)
    have hU := hP.2.2.1
    have hin := hP.2.2.2.1
    have hcn := hP.2.2.2.2
    by_cases c : k = 6
    · rw [if_pos c] at h hw
      obtain ⟨u, z, l0, w', rfl, r2, r3, r4, r5, r6, r7, r8, r9, r10, rfl⟩ := h
      obtain ⟨w1, w2, c1, w3, w4⟩ := hw
      rw [ksE_j (by decide)] at hlen ⊢
      rw [List.length_append] at hlen
      replace hlen : n + ((ksE l0).length + 1) ≤ 12000 := hlen
      refine ly_first (by omega) (by omega) r2 (by rw [r4]; exact gt 5 (by omega)) ?_ (by omega)
      obtain ⟨T1, g, g1, g2, g3, g4⟩ := (ihA.2.1 T (d' + 1) (lo + 1) hi _ c1 s nf n z l0 r3 hhi w3 (by omega) aA hj.lft hP (by omega) (by omega) (by omega) (by omega)).2
      obtain ⟨g, rfl⟩ : ∃ q, g = q + 1 := ⟨g - 1, by omega⟩
      have zm : inb (nI lo) 8200 := nin (by omega) (by omega)
      have cm : (nI lo).toNatClampNeg = lo := nc (by omega)
      rw [e_Model_layFirst nf (d' + 1)]
      unfold rb_Model_layFirst
      simp only [gd, if_pos zm, cm, r4]
      rw [if_neg (by decide), if_neg (by decide), if_neg (by decide), if_neg (by decide), if_neg (by decide), if_pos trivial, vK, r6, g3, rl_Model_layFirst_140, if_pos (by decide)]
      simp only [gd, if_pos zm, cm]
      rw [x_lay g2.1.2.1 (by omega), bis, g2.1.o (k := 61) (by omega), g2.1.o (k := 58) (by omega), r5]
      refine wp_some (LyR.tr g2 ⟨LF.l1, ?_, trivial⟩)
      unfold rOk
      rw [if_pos (by rfl)]
      refine ⟨u, e, rfl, w2, ?_, ly_row, fun k hk => ?_⟩
      · unfold nU
        rw [ly_o (by omega), g2.1.o (k := 45) (by omega)]
        exact r7.1
      · rw [ly_o (by omega), g2.1.o (k := 48) (by omega)]
        exact r8 k hk
    rw [if_neg c] at h hw; clear c
    by_cases c : k = 7
    · rw [if_pos c] at h hw
      obtain ⟨v, z, t0, u0, l0, rfl, r2, r3, r4, r5, r6, r7⟩ := h
      obtain ⟨w1, w2, c1, w3, w4⟩ := hw
      have r41 := r4.1
      by_cases c2 : xK X (i + 3 + e) = 49
      · rw [if_pos c2] at r7 w3
        obtain ⟨s1, s2, s3, s4, s5, rfl⟩ := r7
        rw [ksE_j (by decide)] at hlen ⊢
        rw [List.length_append] at hlen
        replace hlen : n + ((ksE l0).length + 1) ≤ 12000 := hlen
        refine ly_first (by omega) (by omega) r2 (by rw [s1]; exact gt 7 (by omega)) ?_ (by omega)
        exact lf_7 (by omega) s1 s2 (by omega) s4 (by omega) (eA T (d' + 1) (lo + 2) hi _ c1 s n z t0 u0 l0 s5 hhi w3 (by omega) aA hj.lft hP (by omega) (by omega) (by omega)).2 r3 (by omega) r5.symm hj.rgt.one hcn
      · rw [if_neg c2] at r7 w3
        obtain ⟨s1, s2, s3, rfl⟩ := r7
        rw [ksE_j (by decide)] at hlen ⊢
        rw [List.length_append] at hlen
        replace hlen : n + ((ksE l0).length + 1) ≤ 12000 := hlen
        refine ly_first (by omega) (by omega) r2 (by rw [s1]; exact gt 6 (by omega)) ?_ (by omega)
        obtain ⟨T1, g, g1, g2, g3, g4⟩ := (ihA.2.1 T (d' + 1) (lo + 1) hi _ c1 s nf n z l0 s3 hhi w3 (by omega) aA hj.lft hP (by omega) (by omega) (by omega) (by omega)).2
        obtain ⟨g, rfl⟩ : ∃ q, g = q + 1 := ⟨g - 1, by omega⟩
        have zm : inb (nI lo) 8200 := nin (by omega) (by omega)
        have cm : (nI lo).toNatClampNeg = lo := nc (by omega)
        have zv : inb (nI v) 4000 := nin (by omega) (by omega)
        have cv : (nI v).toNatClampNeg = v := nc (by omega)
        obtain ⟨p, f, ep, p1, p2, p3, p4⟩ := hj.rgt.one.1 (Or.inr (Or.inl rfl))
        replace ep : ty = nI p := ep
        have zp : inb (nI p) 6000 := nin (by omega) (by omega)
        have cp : (nI p).toNatClampNeg = p := nc (by omega)
        rw [e_Model_layFirst nf (d' + 1)]
        unfold rb_Model_layFirst
        simp only [gd, if_pos zm, cm, s1]
        rw [if_neg (by decide), if_neg (by decide), if_neg (by decide), if_neg (by decide), if_neg (by decide), if_neg (by decide), if_pos trivial, vK, s2, g4, rl_Model_layFirst_192, if_pos (by decide)]
        simp only [gd, if_pos zm, cm]
        rw [g2.1.o (k := 54) (by omega), r3, if_pos zv, cv, g2.1.o (k := 60) (by omega), ← r5, ep, if_pos zp, cp, x_lay g2.1.2.1 (by omega), bis]
        refine wp_some (LyR.tr g2 (LyR.n1 (by decide) ?_))
        show _ = (16, T.1 48 v, tf T1 69 (nI p), 0)
        unfold tf
        rw [cp, g2.1.o (k := 48) (by omega)]
    rw [if_neg c] at h hw; clear c
    by_cases c : k = 8
    · rw [if_pos c] at h hw
      obtain ⟨z, t0, u0, l0, rfl, r2, r3, r4, r5, r6⟩ := h
      obtain ⟨w1, w2⟩ := hw
      by_cases c2 : xK X i = 29
      · rw [if_pos c2] at r6 w2
        obtain ⟨c3, w3, w4⟩ := w2
        obtain ⟨s1, s2, u, s3, s4, rfl⟩ := r6
        have s41 := s4.1
        rw [ksE_j (by decide)] at hlen ⊢
        rw [List.length_append] at hlen
        replace hlen : n + ((ksE l0).length + 1) ≤ 12000 := hlen
        obtain ⟨q, q0, q1, q2, q3⟩ := AnE_ty _ _ _ _ _ _ _ _ _ s2 w3
        exact ly_first (by omega) (by omega) r2 (by rw [s1]; exact gt 8 (by omega)) (lf_8 (by omega) s1 r3 (by omega) (eA T (d' + 1) (lo + 1) hi _ c3 s n z t0 u0 l0 s2 hhi w3 (by omega) aA hj.lft hP (by omega) (by omega) (by omega)).2 s3 (by omega) q0 (by omega) q3 (hj.rgt.one.2.1 (Or.inl rfl)) hcn (by omega)) (by omega)
      rw [if_neg c2] at r6 w2
      by_cases c3 : xK X i = 30
      · rw [if_pos c3] at r6 w2
        obtain ⟨d1, d2, w3, w4, w5⟩ := w2
        obtain ⟨s1, u, cc, y, t2, u2, l2, s2, s3, s4, s5, s6, s7, s8, rfl⟩ := r6
        have s31 := s3.1
        have := Wf_le2 w3
        have := Wf_le2 w4
        have aB : amT X tb := am2 (by omega)
        have kB := (AnE_kg _ _ _ _ _ _ _ _ _ _ s7 w4 aB).1
        rw [ksE_j (by decide), ksE_ap kB] at hlen ⊢
        rw [List.length_append] at hlen
        replace hlen : n + ((ksE l0 ++ ksE l2).length + 1) ≤ 12000 := hlen
        have hl2 : (ksE l0 ++ ksE l2).length = (ksE l0).length + (ksE l2).length := List.length_append
        obtain ⟨q, q0, q1, q2, q3⟩ := AnE_ty _ _ _ _ _ _ _ _ _ s7 w4
        exact ly_first (by omega) (by omega) r2 (by rw [s1]; exact gt 9 (by omega)) (lf_9 (by omega) s1 r3 s8 (by omega) (eA T (d' + 1) (lo + 1) cc _ d1 s n z t0 u0 l0 s6 (by omega) w3 (by omega) aA hj.lft.lft hP (by omega) (by omega) (by omega)).2 (fun T1 hF => (eB T1 (d' + 1) cc hi _ d2 s (n + (ksE l0).length) y t2 u2 l2 (s7.lf hF w4 (by omega)) (by omega) w4 (by omega) aB (hj.lft.rgt.lf hF) (hP.lf hF) (by omega) (by omega) (by omega)).2) s2 (by omega) q0 (by omega) q3 (hj.rgt.one.2.1 (Or.inr rfl)) hcn (by omega)) (by omega)
      rw [if_neg c3] at r6 w2
      obtain ⟨d1, w3, w4⟩ := w2
      obtain ⟨s1, s2⟩ := r6
      by_cases c4 : xK X i = 31
      · rw [if_pos c4] at s2
        obtain ⟨h50, rfl⟩ := s2
        rw [ksE_j (by decide)] at hlen ⊢
        rw [List.length_append] at hlen
        replace hlen : n + ((ksE l0).length + 1) ≤ 12000 := hlen
        exact ly_first (by omega) (by omega) r2 (by rw [h50]; exact gt 11 (by omega)) (lf_11 (by omega) h50 r3 (by omega) (eA T (d' + 1) (lo + 1) hi _ d1 s n z t0 u0 l0 s1 hhi w3 (by omega) aA hj.lft hP (by omega) (by omega) (by omega)).2) (by omega)
      · rw [if_neg c4] at s2
        obtain ⟨h50, rfl⟩ := s2
        rw [ksE_j (by decide)] at hlen ⊢
        rw [List.length_append] at hlen
        replace hlen : n + ((ksE l0).length + 1) ≤ 12000 := hlen
        exact ly_first (by omega) (by omega) r2 (by rw [h50]; exact gt 12 (by omega)) (lf_12 (by omega) h50 r3 (by omega) (eA T (d' + 1) (lo + 1) hi _ d1 s n z t0 u0 l0 s1 hhi w3 (by omega) aA hj.lft hP (by omega) (by omega) (by omega)).2) (by omega)
    rw [if_neg c] at h hw; clear c
    by_cases c : k = 9
    · rw [if_pos c] at h hw
      obtain ⟨z, t0, u0, l0, rfl, r2, r3, r4, r5, r6, r7, rfl⟩ := h
      refine ly_first (by omega) (by omega) r2 (by rw [r4]; exact gt 10 (by omega)) ?_ (by omega)
      have := ihA.2.2 T (d' + 1) (lo + 1) hi _ b s n z t0 u0 l0 (j1 7 u0 t0 ty 0) r7 hhi hw.2 (by omega) aA hj.lft (am3 c) hP (by omega) (by omega) rfl hlen
      have zm : inb (nI lo) 8200 := nin (by omega) (by omega)
      have cm : (nI lo).toNatClampNeg = lo := nc (by omega)
      rw [e_Model_layFirst nf (d' + 1)]
      unfold rb_Model_layFirst
      simp only [gd, if_pos zm, cm, r4]
      rw [if_neg (by decide), if_neg (by decide), if_neg (by decide), if_neg (by decide), if_neg (by decide), if_neg (by decide), if_neg (by decide), if_neg (by decide), if_neg (by decide), if_neg (by decide), if_pos trivial, vK, r3]
      unfold lyAB at this
      simp only [gd] at this
      exact this
    rw [if_neg c] at hw
    exact hw.elim
theorem x_lyX (hx : xn X ≤ 4000) (hnf : 8300 ≤ nf) (t : Tr) : LyX nf X t := lyX_of hnf (x_ly hx hnf t).1
end LYF
