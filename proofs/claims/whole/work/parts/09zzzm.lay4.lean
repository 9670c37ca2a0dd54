/-! the code of EXPRS: nodes without a left part -/
def LyS (nf : Nat) (X : Lx) (t : Tr) : Prop := ∀ (T : gSt) (d lo hi a b s fl n : Nat) (x : Int32) (js : List T5), AnE X T t lo hi x 0 0 js → hi ≤ 8200 → Wf X t true a b → b ≤ xn X → amT X t → jGs T js → LyP T s n → s + (hi - lo) ≤ 8200 → 6 * dpT t + 20 ≤ d → hi - lo < fl → n + (ksE js).length ≤ 12000 → kGo js ∧ ∃ (T' : gSt) (g : Nat), 1 ≤ g ∧ LyR T T' n (ksE js) ∧ (∀ m, rl_Model_layFirst_140 (RR nf d) nf fl T m x = rl_Model_layFirst_140 (RR nf d) nf g T' m (-1)) ∧ ∀ m, rl_Model_layFirst_192 (RR nf d) nf fl T m x = rl_Model_layFirst_192 (RR nf d) nf g T' m (-1)
section LYC
variable {nf d : Nat} {T T' T1 T2 S : gSt} {X : Lx} {n n' m k p q u lo hi a b c s fr fl i e g : Nat} {x y z w v ty tl t0 : Int32} {j l : T5} {js ks l0 l2 : List T5} {t ta tb : Tr}
theorem lf_0 (hm : m < 8200) (h50 : T.1 50 m = 0) (hP : LyP T s n) (hn : n < 12000) : wp (RR nf (d + 2) 105 T [nI m] []) (fun _ _ T' => LyR T T' n [j1 1 (T.1 52 m) 0 0 0]) := by
  have zm : inb (nI m) 8200 := nin (by omega) (by omega)
  have cm : (nI m).toNatClampNeg = m := nc (by omega)
  rw [e_Model_layFirst nf (d + 1)]
  unfold rb_Model_layFirst
  simp only [gd, if_pos zm, cm, h50]
  rw [if_pos trivial, x_lay hP.2.1 hn, bis]
  exact wp_some (LyR.n1 (by decide) rfl)
theorem lf_1 (hm : m < 8200) (h50 : T.1 50 m = 1) (hP : LyP T s n) (hn : n < 12000) : wp (RR nf (d + 2) 105 T [nI m] []) (fun _ _ T' => LyR T T' n [j1 2 0 0 0 0]) := by
  have zm : inb (nI m) 8200 := nin (by omega) (by omega)
  have cm : (nI m).toNatClampNeg = m := nc (by omega)
  rw [e_Model_layFirst nf (d + 1)]
  unfold rb_Model_layFirst
  simp only [gd, if_pos zm, cm, h50]
  rw [if_neg (by decide), if_pos trivial, x_lay hP.2.1 hn, bis]
  exact wp_some (LyR.n1 (by decide) rfl)
theorem lf_2 (hm : m < 8200) (h50 : T.1 50 m = 2) (hP : LyP T s n) (hn : n < 12000) : wp (RR nf (d + 2) 105 T [nI m] []) (fun _ _ T' => LyR T T' n [j1 3 0 0 0 0]) := by
  have zm : inb (nI m) 8200 := nin (by omega) (by omega)
  have cm : (nI m).toNatClampNeg = m := nc (by omega)
  rw [e_Model_layFirst nf (d + 1)]
  unfold rb_Model_layFirst
  simp only [gd, if_pos zm, cm, h50]
  rw [if_neg (by decide), if_neg (by decide), if_pos trivial, x_lay hP.2.1 hn, bis]
  exact wp_some (LyR.n1 (by decide) rfl)
theorem lf_3 (hm : m < 8200) (h50 : T.1 50 m = 3) (hP : LyP T s n) (hn : n < 12000) : wp (RR nf (d + 2) 105 T [nI m] []) (fun _ _ T' => LyR T T' n [j1 4 (T.1 61 m) 0 0 0]) := by
  have zm : inb (nI m) 8200 := nin (by omega) (by omega)
  have cm : (nI m).toNatClampNeg = m := nc (by omega)
  rw [e_Model_layFirst nf (d + 1)]
  unfold rb_Model_layFirst
  simp only [gd, if_pos zm, cm, h50]
  rw [if_neg (by decide), if_neg (by decide), if_neg (by decide), if_pos trivial, x_lay hP.2.1 hn, bis]
  exact wp_some (LyR.n1 (by decide) rfl)
theorem lf_4 (hm : m < 8200) (h50 : T.1 50 m = 4) (hP : LyP T s n) (hn : n < 12000) : wp (RR nf (d + 2) 105 T [nI m] []) (fun _ _ T' => LyR T T' n [j1 5 (T.1 61 m) ty 0 0]) := by
  have zm : inb (nI m) 8200 := nin (by omega) (by omega)
  have cm : (nI m).toNatClampNeg = m := nc (by omega)
  rw [e_Model_layFirst nf (d + 1)]
  unfold rb_Model_layFirst
  simp only [gd, if_pos zm, cm, h50]
  rw [if_neg (by decide), if_neg (by decide), if_neg (by decide), if_neg (by decide), if_pos trivial, x_lay hP.2.1 hn, bis]
  exact wp_some (LyR.n1 (by decide) rfl)
theorem lf_11 (hm : m < 8200) (h50 : T.1 50 m = 11) (h52 : T.1 52 m = z) (hn : n + ks.length < 12000) (h : wp (RR nf (d + 1) 103 T [z] []) (fun _ _ T' => LyR T T' n ks)) : wp (RR nf (d + 2) 105 T [nI m] []) (fun _ _ T' => LyR T T' n (ks ++ [j1 12 t0 ty 0 0])) := by
  have zm : inb (nI m) 8200 := nin (by omega) (by omega)
  have cm : (nI m).toNatClampNeg = m := nc (by omega)
  obtain ⟨r, v, T1, e1, w1⟩ := h
  rw [e_Model_layFirst nf (d + 1)]
  unfold rb_Model_layFirst
  simp only [gd, if_pos zm, cm, h50]
  rw [if_neg (by decide), if_neg (by decide), if_neg (by decide), if_neg (by decide), if_neg (by decide), if_neg (by decide), if_neg (by decide), if_neg (by decide), if_neg (by decide), if_neg (by decide), if_neg (by decide), if_pos trivial, h52, e1, bis, x_lay w1.1.2.1 hn, bis]
  exact wp_some (LyR.tr w1 (LyR.n1 (by decide) rfl))
theorem lf_12 (hm : m < 8200) (h50 : T.1 50 m = 12) (h52 : T.1 52 m = z) (hn : n + ks.length < 12000) (h : wp (RR nf (d + 1) 103 T [z] []) (fun _ _ T' => LyR T T' n ks)) : wp (RR nf (d + 2) 105 T [nI m] []) (fun _ _ T' => LyR T T' n (ks ++ [j1 13 t0 0 0 0])) := by
  have zm : inb (nI m) 8200 := nin (by omega) (by omega)
  have cm : (nI m).toNatClampNeg = m := nc (by omega)
  obtain ⟨r, v, T1, e1, w1⟩ := h
  rw [e_Model_layFirst nf (d + 1)]
  unfold rb_Model_layFirst
  simp only [gd, if_pos zm, cm, h50]
  rw [if_neg (by decide), if_neg (by decide), if_neg (by decide), if_neg (by decide), if_neg (by decide), if_neg (by decide), if_neg (by decide), if_neg (by decide), if_neg (by decide), if_neg (by decide), if_neg (by decide), if_neg (by decide), h52, e1, bis, x_lay w1.1.2.1 hn, bis]
  exact wp_some (LyR.tr w1 (LyR.n1 (by decide) rfl))
theorem lf_8 (hm : m < 8200) (h50 : T.1 50 m = 8) (h52 : T.1 52 m = z) (hn : n + ks.length < 12000) (h : wp (RR nf (d + 1) 103 T [z] []) (fun _ _ T' => LyR T T' n ks)) (h58 : T.1 58 m = nI u) (hu : u < 4000) (hz : z = nI q) (hq : q < 8200) (h60 : T.1 60 q = t0) (hj : tV T t0) (hcn : cn T ≤ 6000) (hd : 1 ≤ d) : wp (RR nf (d + 2) 105 T [nI m] []) (fun _ _ T' => LyR T T' n (ks ++ [j1 14 (T.1 48 u) t0 ty 0])) := by
  have zm : inb (nI m) 8200 := nin (by omega) (by omega)
  have cm : (nI m).toNatClampNeg = m := nc (by omega)
  obtain ⟨d', rfl⟩ : ∃ g, d = g + 1 := ⟨d - 1, by omega⟩
  have zu : inb (nI u) 4000 := nin (by omega) (by omega)
  have cu : (nI u).toNatClampNeg = u := nc (by omega)
  have zq : inb (nI q) 8200 := nin (by omega) (by omega)
  have cq : (nI q).toNatClampNeg = q := nc (by omega)
  obtain ⟨r, v, T1, e1, w1⟩ := h
  have ec : cn T1 = cn T := by unfold cn; rw [w1.1.o (by omega)]
  have tk : tOk (cn T1) t0 := by rw [ec]; exact tR.tk (Or.inr (Or.inr hj))
  rw [e_Model_layFirst nf (d' + 2)]
  unfold rb_Model_layFirst
  simp only [gd, if_pos zm, cm, h50]
  rw [if_neg (by decide), if_neg (by decide), if_neg (by decide), if_neg (by decide), if_neg (by decide), if_neg (by decide), if_neg (by decide), if_neg (by decide), if_pos trivial, h52, e1, bis, w1.1.o (k := 58) (by omega), h58, if_pos zu, w1.1.o (k := 52) (by omega), h52, hz, if_pos zq, cq, w1.1.o (k := 60) (by omega), h60, x_wo tk (by omega), bis, x_lay w1.1.2.1 hn, bis, cu]
  refine wp_some (LyR.tr w1 (LyR.n1 (by decide) ?_))
  show _ = (14, T.1 48 u, wdO T1 t0, 0)
  rw [w1.1.o (k := 48) (by omega)]
theorem lf_9 (hm : m < 8200) (h50 : T.1 50 m = 9) (h52 : T.1 52 m = z) (h53 : T.1 53 m = y) (hn : n + (ks ++ l2).length < 12000) (h : wp (RR nf (d + 1) 103 T [z] []) (fun _ _ T' => LyR T T' n ks)) (h2 : ∀ T1, LF T T1 n (n + ks.length) → wp (RR nf (d + 1) 103 T1 [y] []) (fun _ _ T' => LyR T1 T' (n + ks.length) l2)) (h58 : T.1 58 m = nI u) (hu : u < 4000) (hz : y = nI q) (hq : q < 8200) (h60 : T.1 60 q = t0) (hj : tV T t0) (hcn : cn T ≤ 6000) (hd : 1 ≤ d) : wp (RR nf (d + 2) 105 T [nI m] []) (fun _ _ T' => LyR T T' n (ks ++ l2 ++ [j1 15 (T.1 48 u) t0 ty 0])) := by
  have zm : inb (nI m) 8200 := nin (by omega) (by omega)
  have cm : (nI m).toNatClampNeg = m := nc (by omega)
  obtain ⟨d', rfl⟩ : ∃ g, d = g + 1 := ⟨d - 1, by omega⟩
  have zu : inb (nI u) 4000 := nin (by omega) (by omega)
  have cu : (nI u).toNatClampNeg = u := nc (by omega)
  have zq : inb (nI q) 8200 := nin (by omega) (by omega)
  have cq : (nI q).toNatClampNeg = q := nc (by omega)
  obtain ⟨r, v, T1, e1, w1⟩ := h
  obtain ⟨r2, v2, T2, e2, w2⟩ := h2 T1 w1.1
  have w3 := LyR.tr w1 w2
  have ec : cn T2 = cn T := by unfold cn; rw [w3.1.o (by omega)]
  have tk : tOk (cn T2) t0 := by rw [ec]; exact tR.tk (Or.inr (Or.inr hj))
  rw [e_Model_layFirst nf (d' + 2)]
  unfold rb_Model_layFirst
  simp only [gd, if_pos zm, cm, h50]
  rw [if_neg (by decide), if_neg (by decide), if_neg (by decide), if_neg (by decide), if_neg (by decide), if_neg (by decide), if_neg (by decide), if_neg (by decide), if_neg (by decide), if_pos trivial, h52, e1, bis, w1.1.o (k := 53) (by omega), h53, e2, bis, w3.1.o (k := 58) (by omega), h58, if_pos zu, w3.1.o (k := 53) (by omega), h53, hz, if_pos zq, cq, w3.1.o (k := 60) (by omega), h60, x_wo tk (by omega), bis, x_lay w3.1.2.1 hn, bis, cu]
  refine wp_some (LyR.tr w3 (LyR.n1 (by decide) ?_))
  show _ = (15, T.1 48 u, wdO T2 t0, 0)
  rw [w3.1.o (k := 48) (by omega)]
theorem lf_7 (hm : m < 8200) (h50 : T.1 50 m = 7) (h52 : T.1 52 m = nI (m + 1)) (hm1 : m + 1 < 8200) (h52b : T.1 52 (m + 1) = z) (hn : n + ks.length < 12000) (h : wp (RR nf (d + 1) 103 T [z] []) (fun _ _ T' => LyR T T' n ks)) (h54 : T.1 54 m = nI u) (hu : u < 4000) (h60 : T.1 60 m = ty) (hj : jG T (j1 17 (T.1 48 u) ty (T.1 61 (m + 1)) 0)) (hcn : cn T ≤ 6000) : wp (RR nf (d + 2) 105 T [nI m] []) (fun _ _ T' => LyR T T' n (ks ++ [j1 17 (T.1 48 u) ty (T.1 61 (m + 1)) 0])) := by
  have zm : inb (nI m) 8200 := nin (by omega) (by omega)
  have cm : (nI m).toNatClampNeg = m := nc (by omega)
  have zu : inb (nI u) 4000 := nin (by omega) (by omega)
  have cu : (nI u).toNatClampNeg = u := nc (by omega)
  have zq : inb (nI (m + 1)) 8200 := nin (by omega) (by omega)
  have cq : (nI (m + 1)).toNatClampNeg = m + 1 := nc (by omega)
  obtain ⟨p, f, rfl, p1, p2, p3, p4⟩ := hj.1 (Or.inr (Or.inr rfl))
  have zp : inb (nI p) 6000 := nin (by omega) (by omega)
  have cp : (nI p).toNatClampNeg = p := nc (by omega)
  obtain ⟨r, v, T1, e1, w1⟩ := h
  rw [e_Model_layFirst nf (d + 1)]
  unfold rb_Model_layFirst
  simp only [gd, if_pos zm, cm, h50]
  rw [if_neg (by decide), if_neg (by decide), if_neg (by decide), if_neg (by decide), if_neg (by decide), if_neg (by decide), if_neg (by decide), if_pos trivial, h52, if_pos zq, cq, h52b, e1, bis, w1.1.o (k := 54) (by omega), h54, if_pos zu, cu, w1.1.o (k := 60) (by omega), h60, if_pos zp, cp, w1.1.o (k := 52) (by omega), h52, if_pos zq, cq, x_lay w1.1.2.1 hn, bis]
  refine wp_some (LyR.tr w1 (LyR.n1 (by decide) ?_))
  show _ = (17, T.1 48 u, tf T1 69 (nI p), T.1 61 (m + 1))
  unfold tf
  rw [cp, w1.1.o (k := 48) (by omega), w1.1.o (k := 61) (by omega)]
theorem sy_z (hz : ∀ k i e a b, t ≠ tD k i e a b) : LyS nf X t := by
  intro T d lo hi a b s fl n x js h hhi hw hbx ham hj hP hss hd hfl hlen
  unfold AnE at h
  split at h
  · rename_i k i e a b
    exact absurd rfl (hz k i e a b)
  · obtain ⟨rfl, -, -, rfl⟩ := h
    exact ⟨kGo.nl, T, fl, by omega, ⟨LF.rf hP.2.1, trivial⟩, fun _ => rfl, fun _ => rfl⟩
  · exact h.elim
theorem AnE_kg (t : Tr) : ∀ (mo : Bool) (a b lo hi : Nat) (x ty tl : Int32) (js : List T5), AnE X T t lo hi x ty tl js → Wf X t mo a b → amT X t → kGo js ∧ (mo = false → tkd X t = 14 ∨ tkd X t = 15 → ∃ l' j, js = l' ++ [j] ∧ kGo l' ∧ ¬ j.1 = 7) := by
  induction t using Tr_ind with
  | hz t hz =>
    intro mo a b lo hi x ty tl js h hw ham
    unfold AnE at h
    split at h
    · rename_i k i e a b
      exact absurd rfl (hz k i e a b)
    · obtain ⟨-, -, -, rfl⟩ := h
      refine ⟨kGo.nl, fun e => ?_⟩
      rw [e] at hw
      exact absurd hw.1 (by decide)
    · exact h.elim
  | h k i e ta tb ihA ihB =>
    intro mo a b lo hi x ty tl js h hw ham
    rw [AnE_n] at h
    rw [Wf_n] at hw
    rw [amT_n] at ham
    obtain ⟨am1, am2, am3⟩ := ham
    rw [tkd_n]
    unfold AnN at h
    unfold WfN at hw
    have nt : ∀ (A : Prop) (p : Nat), p ≠ 14 → p ≠ 15 → (p = 14 ∨ p = 15) → A := fun A p h1 h2 h => by omega
    cases mo with
    | true =>
      rw [if_pos rfl] at hw
      obtain ⟨rfl, c1, c2, e1, e2, e3⟩ := hw
      simp only [if_neg (show ¬ (10 = 1) by omega), if_neg (show ¬ (10 = 2) by omega), if_neg (show ¬ (10 = 3) by omega), if_neg (show ¬ (10 = 4) by omega), if_neg (show ¬ (10 = 5) by omega), if_neg (show ¬ (10 = 6) by omega), if_neg (show ¬ (10 = 7) by omega), if_neg (show ¬ (10 = 8) by omega), if_neg (show ¬ (10 = 9) by omega), if_pos (rfl : 10 = 10)] at h
      obtain ⟨m, y, z, t0, u0, l0, l2, rfl, r2, r3, r4, r5, r6, r7, r8, r9, rfl⟩ := h
      exact ⟨(ihA _ _ _ _ _ _ _ _ _ r4 e2 (am1 (by omega))).1.ap (ihB _ _ _ _ _ _ _ _ _ r7 e3 (am2 (by omega))).1, fun q => absurd q (by decide)⟩
    | false =>
      rw [if_neg (by decide)] at hw
      by_cases c : k = 1
      · rw [if_pos c] at h
        obtain ⟨r1, r2, r3, r4, r5⟩ := h
        refine ⟨?_, fun _ => ?_⟩
        · have n : ∀ o a b c d : Int32, ¬ o = 7 → kGo [j1 o a b c d] := fun o a b c d h => kGo.one h
          repeat' split at r5
          · rw [r5.2.2]; exact n _ _ _ _ _ (by decide)
          · rw [r5.2]; exact n _ _ _ _ _ (by decide)
          · rw [r5.2]; exact n _ _ _ _ _ (by decide)
          · rw [r5.2]; exact n _ _ _ _ _ (by decide)
          · rw [r5.2]; exact n _ _ _ _ _ (by decide)
        · subst c
          rw [if_neg (by omega), if_pos rfl]
          refine nt _ _ ?_ ?_
          · repeat' split
            all_goals omega
          · repeat' split
            all_goals omega
      rw [if_neg c] at h hw; have c1 := c; clear c
      by_cases c : k = 2
      · rw [if_pos c] at h hw ⊢
        obtain ⟨c1, w1, w2, w3⟩ := hw
        exact ihA _ _ _ _ _ _ _ _ _ h w2 (am1 (by omega))
      rw [if_neg c] at h hw ⊢; clear c
      rw [if_neg c1]
      by_cases c : k = 3
      · rw [if_pos c] at h hw ⊢
        obtain ⟨m, y, t0, l0, r1, r2, r3, r4, r5, r6, r7⟩ := h
        have g0 := (ihA _ _ _ _ _ _ _ _ _ r4 hw.1 (am1 (by omega))).1
        by_cases c2 : xK X i = 49
        · rw [if_pos c2] at r7
          rw [r7.2]
          exact ⟨g0.nj (by decide), fun _ _ => ⟨l0, _, rfl, g0, by show ¬ (6 : Int32) = 7; decide⟩⟩
        · rw [if_neg c2] at r7 ⊢
          refine ⟨?_, fun _ => ?_⟩
          · split at r7
            · rw [r7.2]; exact g0.nj (by decide)
            · rw [r7.2]; exact g0.nj (by decide)
          · refine nt _ _ ?_ ?_
            · split <;> omega
            · split <;> omega
      rw [if_neg c] at h hw ⊢; clear c
      by_cases c : k = 4
      · rw [if_pos c] at h hw ⊢
        obtain ⟨m, y, z, t0, l0, u1, u2, l2, r1, r2, r3, r4, r5, r6, r7, r8, r9, rfl⟩ := h
        obtain ⟨w1, c3, w2, w3⟩ := hw
        have g0 := (ihA _ _ _ _ _ _ _ _ _ r4 w1 (am1 (by omega))).1
        have g2 := (ihB _ _ _ _ _ _ _ _ _ r5 w2 (am2 (by omega))).1
        exact ⟨(g0.ap g2).nj (by decide), fun _ _ => ⟨l0 ++ l2, _, rfl, g0.ap g2, by show ¬ (8 : Int32) = 7; decide⟩⟩
      rw [if_neg c] at h hw ⊢; clear c
      by_cases c : k = 5
      · rw [if_pos c] at h hw ⊢
        obtain ⟨m, y, z, t0, l0, u1, u2, l2, r1, r2, r3, r4, r5, r6, r7, r8, r9, r10, rfl⟩ := h
        have g0 := (ihA _ _ _ _ _ _ _ _ _ r4 hw.1 (am1 (by omega))).1
        have g2 := (ihB _ _ _ _ _ _ _ _ _ r5 hw.2 (am2 (by omega))).1
        exact ⟨(g0.ap g2).nj (by decide), fun _ => nt _ _ (by omega) (by omega)⟩
      rw [if_neg c] at h hw ⊢; clear c
      by_cases c : k = 6
      · rw [if_pos c] at h hw ⊢
        obtain ⟨u, z, l0, w', r1, r2, r3, r4, r5, r6, r7, r8, r9, r10, rfl⟩ := h
        obtain ⟨w1, w2, c3, w3, w4⟩ := hw
        have g0 := (ihA _ _ _ _ _ _ _ _ _ r3 w3 (am1 (by omega))).1
        exact ⟨g0.nj (by decide), fun _ => nt _ _ (by omega) (by omega)⟩
      rw [if_neg c] at h hw ⊢; clear c
      by_cases c : k = 7
      · rw [if_pos c] at h hw ⊢
        obtain ⟨v, z, t0, u0, l0, r1, r2, r3, r4, r5, r6, r7⟩ := h
        obtain ⟨w1, w2, c3, w3, w4⟩ := hw
        refine ⟨?_, fun _ => nt _ _ (by split <;> omega) (by split <;> omega)⟩
        by_cases c2 : xK X (i + 3 + e) = 49
        · rw [if_pos c2] at r7 w3
          obtain ⟨s1, s2, s3, s4, s5, rfl⟩ := r7
          exact (ihA _ _ _ _ _ _ _ _ _ s5 w3 (am1 (by omega))).1.nj (by decide)
        · rw [if_neg c2] at r7 w3
          obtain ⟨s1, s2, s3, rfl⟩ := r7
          exact (ihA _ _ _ _ _ _ _ _ _ s3 w3 (am1 (by omega))).1.nj (by decide)
      rw [if_neg c] at h hw ⊢; clear c
      by_cases c : k = 8
      · rw [if_pos c] at h hw ⊢
        obtain ⟨z, t0, u0, l0, r1, r2, r3, r4, r5, r6⟩ := h
        obtain ⟨w1, w2⟩ := hw
        refine ⟨?_, fun _ => nt _ _ (by repeat' split
                                        all_goals omega) (by repeat' split
                                                             all_goals omega)⟩
        by_cases c2 : xK X i = 29
        · rw [if_pos c2] at r6 w2
          obtain ⟨c3, w3, w4⟩ := w2
          obtain ⟨s1, s2, u, s3, s4, rfl⟩ := r6
          exact (ihA _ _ _ _ _ _ _ _ _ s2 w3 (am1 (by omega))).1.nj (by decide)
        rw [if_neg c2] at r6 w2
        by_cases c3 : xK X i = 30
        · rw [if_pos c3] at r6 w2
          obtain ⟨d1, d2, w3, w4, w5⟩ := w2
          obtain ⟨s1, u, cc, y, t2, u2, l2, s2, s3, s4, s5, s6, s7, s8, rfl⟩ := r6
          exact ((ihA _ _ _ _ _ _ _ _ _ s6 w3 (am1 (by omega))).1.ap (ihB _ _ _ _ _ _ _ _ _ s7 w4 (am2 (by omega))).1).nj (by decide)
        rw [if_neg c3] at r6 w2
        obtain ⟨d1, w3, w4⟩ := w2
        obtain ⟨s1, s2⟩ := r6
        have g0 := (ihA _ _ _ _ _ _ _ _ _ s1 w3 (am1 (by omega))).1
        split at s2
        · rw [s2.2]; exact g0.nj (by decide)
        · rw [s2.2]; exact g0.nj (by decide)
      rw [if_neg c] at h hw ⊢; clear c
      by_cases c : k = 9
      · rw [if_pos c] at h hw ⊢
        obtain ⟨z, t0, u0, l0, r1, r2, r3, r4, r5, r6, r7, rfl⟩ := h
        obtain ⟨l', j, rfl, g1, g2⟩ := (ihA _ _ _ _ _ _ _ _ _ r7 hw.2 (am1 (by omega))).2 rfl (am3 c)
        exact ⟨g1.s rfl g2, fun _ => nt _ _ (by omega) (by omega)⟩
      rw [if_neg c] at h hw
      exact hw.elim
theorem sy_n (hA : LyX nf X ta) (hB : LyS nf X tb) : LyS nf X (tD k i e ta tb) := by
  intro T d lo hi a b s fl n x js h hhi hw hbx ham hj hP hss hd hfl hlen
  have hk0 := (AnE_kg _ _ _ _ _ _ _ _ _ _ h hw ham).1
  rw [Wf_n] at hw
  unfold WfN at hw
  rw [if_pos rfl] at hw
  obtain ⟨rfl, c1, c2, e1, e2, e3⟩ := hw
  rw [AnE_n] at h
  unfold AnN at h
  simp only [if_neg (show ¬ (10 = 1) by omega), if_neg (show ¬ (10 = 2) by omega), if_neg (show ¬ (10 = 3) by omega), if_neg (show ¬ (10 = 4) by omega), if_neg (show ¬ (10 = 5) by omega), if_neg (show ¬ (10 = 6) by omega), if_neg (show ¬ (10 = 7) by omega), if_neg (show ¬ (10 = 8) by omega), if_neg (show ¬ (10 = 9) by omega), if_pos (rfl : 10 = 10)] at h
  obtain ⟨m, y, z, t0, u0, l0, l2, rfl, r2, r3, r4, r5, r6, r7, r8, r9, rfl⟩ := h
  have l1 := Wf_le2 e2
  have l3 := Wf_le2 e3
  rw [dpT_n, if_pos (by omega)] at hd
  rw [amT_n] at ham
  have aA : amT X ta := ham.1 (by omega)
  have aB : amT X tb := ham.2.1 (by omega)
  have kB := (AnE_kg _ _ _ _ _ _ _ _ _ _ r7 e3 aB).1
  refine ⟨hk0, ?_⟩
  rw [ksE_ap kB] at hlen ⊢
  rw [List.length_append] at hlen
  have zm : inb (nI m) 8200 := nin (by omega) (by omega)
  have cm : (nI m).toNatClampNeg = m := nc (by omega)
  obtain ⟨fl', rfl⟩ : ∃ g, fl = g + 1 := ⟨fl - 1, by omega⟩
  obtain ⟨r, v, T1, f1, w1⟩ := (hA T d lo m c1 c2 s n y t0 u0 l0 r4 (by omega) e2 (by omega) aA hj.lft hP (by omega) (by omega) (by omega)).2
  obtain ⟨T2, g, g1, g2, g3, g4⟩ := (hB T1 d (m + 1) hi c2 b s fl' (n + (ksE l0).length) z l2 (r7.lf w1.1 e3 hbx) hhi e3 hbx aB (hj.rgt.lf w1.1) (hP.lf w1.1) (by omega) (by omega) (by omega) (by omega)).2
  have nn : ¬ nI m < 0 := fun h => by
    have := (nI_ltI (a := m) (b := 0) (by omega) (by omega)).mp h
    omega
  refine ⟨T2, g, g1, LyR.tr w1 g2, fun q => ?_, fun q => ?_⟩
  · rw [← g3 q, rl_Model_layFirst_140, if_neg nn]
    simp only [gd, if_pos zm, cm]
    rw [r5, f1, bis, w1.1.o (k := 55) (by omega), r6, vK]
  · rw [← g4 q, rl_Model_layFirst_192, if_neg nn]
    simp only [gd, if_pos zm, cm]
    rw [r5, f1, bis, w1.1.o (k := 55) (by omega), r6, vK]
end LYC
