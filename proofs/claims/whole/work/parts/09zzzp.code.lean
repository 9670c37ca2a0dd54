/-! the code of STEPS: how long, and what its rows hold -/
section CLN
variable {T : gSt} {X : Lx} {t ta tb : Tr} {js : List T5}
theorem kst_len : ∀ (js acc : List T5), (js.foldl kst acc).length ≤ acc.length + js.length := by
  intro js
  induction js with
  | nil => intro acc; simp
  | cons j js ih =>
    intro acc
    rw [List.foldl_cons, List.length_cons]
    have h := ih (kst acc j)
    have : (kst acc j).length ≤ acc.length + 1 := by
      unfold kst
      split
      · rw [List.length_append, List.length_dropLast, List.length_singleton]; omega
      · rw [List.length_append, List.length_singleton]; omega
    omega
theorem ksE_len : (ksE js).length ≤ js.length := by
  have := kst_len js []
  unfold ksE
  rw [List.length_nil] at this
  omega
theorem isZ_t (h : isZ t = true) : ∀ k i e a b, t ≠ tD k i e a b := by
  intro k i e a b q
  rw [q] at h
  exact absurd (show false = true from h) (by decide)
theorem AnE_len (t : Tr) : ∀ (mo : Bool) (a b lo hi : Nat) (x ty tl : Int32) (js : List T5), AnE X T t lo hi x ty tl js → Wf X t mo a b → js.length ≤ cw X t := by
  induction t using Tr_ind with
  | hz t hz =>
    intro mo a b lo hi x ty tl js h hw
    unfold AnE at h
    split at h
    · rename_i k i e a b
      exact absurd rfl (hz k i e a b)
    · obtain ⟨-, -, -, rfl⟩ := h
      exact Nat.zero_le _
    · exact h.elim
  | h k i e ta tb ihA ihB =>
    intro mo a b lo hi x ty tl js h hw
    rw [AnE_n] at h
    rw [Wf_n] at hw
    rw [cw_n]
    unfold AnN at h
    unfold WfN at hw
    unfold cwN
    cases mo with
    | true =>
      rw [if_pos rfl] at hw
      obtain ⟨rfl, c1, c2, e1, e2, e3⟩ := hw
      simp only [if_neg (show ¬ (10 = 1) by omega), if_neg (show ¬ (10 = 2) by omega), if_neg (show ¬ (10 = 3) by omega), if_neg (show ¬ (10 = 4) by omega), if_neg (show ¬ (10 = 5) by omega), if_neg (show ¬ (10 = 6) by omega), if_neg (show ¬ (10 = 7) by omega), if_neg (show ¬ (10 = 8) by omega), if_neg (show ¬ (10 = 9) by omega), if_pos (rfl : 10 = 10)] at h ⊢
      obtain ⟨m, y, z, t0, u0, l0, l2, rfl, r2, r3, r4, r5, r6, r7, r8, r9, rfl⟩ := h
      have p := ihA _ _ _ _ _ _ _ _ _ r4 e2
      have q := ihB _ _ _ _ _ _ _ _ _ r7 e3
      rw [List.length_append]
      by_cases z : isZ tb = true
      · rw [if_pos z]
        have hz := isZ_t z
        unfold AnE at r7
        split at r7
        · rename_i k i e a b
          exact absurd rfl (hz k i e a b)
        · obtain ⟨-, -, -, rfl⟩ := r7
          rw [List.length_nil]; omega
        · exact r7.elim
      · rw [if_neg z]; omega
    | false =>
      rw [if_neg (by decide)] at hw
      by_cases c : k = 1
      · rw [if_pos c] at h ⊢
        obtain ⟨r1, r2, r3, r4, r5⟩ := h
        have l1 : js.length = 1 := by
          repeat' split at r5
          · rw [r5.2.2]; rfl
          · rw [r5.2]; rfl
          · rw [r5.2]; rfl
          · rw [r5.2]; rfl
          · rw [r5.2]; rfl
        rw [l1]
        split <;> omega
      rw [if_neg c] at h hw ⊢; clear c
      by_cases c : k = 2
      · rw [if_pos c] at h hw ⊢
        obtain ⟨c1, w1, w2, w3⟩ := hw
        have := ihA _ _ _ _ _ _ _ _ _ h w2
        omega
      rw [if_neg c] at h hw ⊢; clear c
      by_cases c : k = 3
      · rw [if_pos c] at h hw ⊢
        obtain ⟨m, y, t0, l0, r1, r2, r3, r4, r5, r6, r7⟩ := h
        have p := ihA _ _ _ _ _ _ _ _ _ r4 hw.1
        have : js.length = l0.length + 1 := by
          repeat' split at r7
          all_goals (rw [r7.2, List.length_append]; rfl)
        rw [this]
        split <;> omega
      rw [if_neg c] at h hw ⊢; clear c
      by_cases c : k = 4
      · rw [if_pos c] at h hw ⊢
        obtain ⟨m, y, z, t0, l0, u1, u2, l2, r1, r2, r3, r4, r5, r6, r7, r8, r9, rfl⟩ := h
        obtain ⟨w1, c3, w2, w3⟩ := hw
        have p := ihA _ _ _ _ _ _ _ _ _ r4 w1
        have q := ihB _ _ _ _ _ _ _ _ _ r5 w2
        rw [List.length_append, List.length_append, List.length_singleton]
        omega
      rw [if_neg c] at h hw ⊢; clear c
      by_cases c : k = 5
      · rw [if_pos c] at h hw ⊢
        obtain ⟨m, y, z, t0, l0, u1, u2, l2, r1, r2, r3, r4, r5, r6, r7, r8, r9, r10, rfl⟩ := h
        have p := ihA _ _ _ _ _ _ _ _ _ r4 hw.1
        have q := ihB _ _ _ _ _ _ _ _ _ r5 hw.2
        rw [List.length_append, List.length_append, List.length_singleton]
        omega
      rw [if_neg c] at h hw ⊢; clear c
      by_cases c : k = 6
      · rw [if_pos c] at h hw ⊢
        obtain ⟨u, z, l0, w', r1, r2, r3, r4, r5, r6, r7, r8, r9, r10, rfl⟩ := h
        obtain ⟨w1, w2, c3, w3, w4⟩ := hw
        have p := ihA _ _ _ _ _ _ _ _ _ r3 w3
        rw [List.length_append, List.length_singleton]
        omega
      rw [if_neg c] at h hw ⊢; clear c
      by_cases c : k = 7
      · rw [if_pos c] at h hw ⊢
        obtain ⟨v, z, t0, u0, l0, r1, r2, r3, r4, r5, r6, r7⟩ := h
        obtain ⟨w1, w2, c3, w3, w4⟩ := hw
        by_cases c2 : xK X (i + 3 + e) = 49
        · rw [if_pos c2] at r7 w3 ⊢
          obtain ⟨s1, s2, s3, s4, s5, rfl⟩ := r7
          have p := ihA _ _ _ _ _ _ _ _ _ s5 w3
          rw [List.length_append, List.length_singleton]
          omega
        · rw [if_neg c2] at r7 w3 ⊢
          obtain ⟨s1, s2, s3, rfl⟩ := r7
          have p := ihA _ _ _ _ _ _ _ _ _ s3 w3
          rw [List.length_append, List.length_singleton]
          omega
      rw [if_neg c] at h hw ⊢; clear c
      by_cases c : k = 8
      · rw [if_pos c] at h hw ⊢
        obtain ⟨z, t0, u0, l0, r1, r2, r3, r4, r5, r6⟩ := h
        obtain ⟨w1, w2⟩ := hw
        by_cases c2 : xK X i = 29
        · rw [if_pos c2] at r6 w2 ⊢
          obtain ⟨c3, w3, w4⟩ := w2
          obtain ⟨s1, s2, u, s3, s4, rfl⟩ := r6
          have p := ihA _ _ _ _ _ _ _ _ _ s2 w3
          rw [List.length_append, List.length_singleton]
          omega
        rw [if_neg c2] at r6 w2 ⊢
        by_cases c3 : xK X i = 30
        · rw [if_pos c3] at r6 w2 ⊢
          obtain ⟨d1, d2, w3, w4, w5⟩ := w2
          obtain ⟨s1, u, cc, y, t2, u2, l2, s2, s3, s4, s5, s6, s7, s8, rfl⟩ := r6
          have p := ihA _ _ _ _ _ _ _ _ _ s6 w3
          have q := ihB _ _ _ _ _ _ _ _ _ s7 w4
          rw [List.length_append, List.length_append, List.length_singleton]
          omega
        rw [if_neg c3] at r6 w2 ⊢
        obtain ⟨d1, w3, w4⟩ := w2
        obtain ⟨s1, s2⟩ := r6
        have p := ihA _ _ _ _ _ _ _ _ _ s1 w3
        have : js.length = l0.length + 1 := by
          split at s2
          all_goals (rw [s2.2, List.length_append]; rfl)
        omega
      rw [if_neg c] at h hw ⊢; clear c
      by_cases c : k = 9
      · rw [if_pos c] at h hw ⊢
        obtain ⟨z, t0, u0, l0, r1, r2, r3, r4, r5, r6, r7, rfl⟩ := h
        have p := ihA _ _ _ _ _ _ _ _ _ r7 hw.2
        rw [List.length_append, List.length_singleton]
        omega
      rw [if_neg c] at h hw
      exact hw.elim
end CLN
/-- the nodes of STEPS: kinds and places -/
def NdN (X : Lx) (T : gSt) (Na Nb : Nat → Int32 → Prop) (ta tb : Tr) (k i p : Nat) (x : Int32) : Prop :=
  if k = 12 then Na p (T.1 53 p) ∧ Nb p (T.1 54 p)
  else if k = 11 then ∃ q, q < 8200 ∧ x = nI q ∧ Na q x ∧ Nb q (T.1 55 q)
  else ∃ m, m < 8200 ∧ x = nI m ∧ (if k = 31 then Na m (T.1 52 m) else T.1 50 m = nI k ∧ T.1 51 m = nI (xP X i) ∧ (if k = 21 then Nb m x else if k = 22 then Nb m (T.1 53 m) else if k = 29 then ∃ y, y < 8200 ∧ T.1 52 m = nI y ∧ T.1 50 y = nI (tkd X ta) else if k = 26 then Na m (T.1 52 m) else if k = 28 then Na m (T.1 52 m) ∧ Nb m (T.1 53 m) else True))
def NdS (X : Lx) (T : gSt) : Tr → Nat → Int32 → Prop
  | .add (.add (.var k) (.add (.var i) (.var _))) (.add a b), p, x => NdN X T (NdS X T a) (NdS X T b) a b k i p x
  | _, _, _ => True
section NDD
variable {T T' : gSt} {X : Lx} {k i e p : Nat} {x : Int32} {t ta tb : Tr}
theorem NdS_n : NdS X T (tD k i e ta tb) p x = NdN X T (NdS X T ta) (NdS X T tb) ta tb k i p x := rfl
theorem NdS_z (h : ∀ k i e a b, t ≠ tD k i e a b) : NdS X T t p x := by
  unfold NdS
  split
  · rename_i k i e a b
    exact absurd rfl (h k i e a b)
  · trivial
theorem NdS.eq (h : ∀ g, 50 ≤ g → g ≤ 55 → T'.1 g = T.1 g) (t : Tr) : ∀ (p : Nat) (x : Int32), NdS X T t p x → NdS X T' t p x := by
  induction t using Tr_ind with
  | hz t hz => intro p x _; exact NdS_z hz
  | h k i e ta tb ihA ihB =>
    intro p x hn
    rw [NdS_n] at hn ⊢
    unfold NdN at hn ⊢
    rw [h 50 (by omega) (by omega), h 51 (by omega) (by omega), h 52 (by omega) (by omega), h 53 (by omega) (by omega), h 54 (by omega) (by omega), h 55 (by omega) (by omega)]
    by_cases c : k = 12
    · rw [if_pos c] at hn ⊢
      exact ⟨ihA _ _ hn.1, ihB _ _ hn.2⟩
    rw [if_neg c] at hn ⊢
    by_cases c1 : k = 11
    · rw [if_pos c1] at hn ⊢
      obtain ⟨q, q1, q2, q3, q4⟩ := hn
      exact ⟨q, q1, q2, ihA _ _ q3, ihB _ _ q4⟩
    rw [if_neg c1] at hn ⊢
    obtain ⟨m, m1, m2, m3⟩ := hn
    refine ⟨m, m1, m2, ?_⟩
    by_cases c2 : k = 31
    · rw [if_pos c2] at m3 ⊢
      exact ihA _ _ m3
    rw [if_neg c2] at m3 ⊢
    refine ⟨m3.1, m3.2.1, ?_⟩
    have m4 := m3.2.2
    by_cases c3 : k = 21
    · rw [if_pos c3] at m4 ⊢; exact ihB _ _ m4
    rw [if_neg c3] at m4 ⊢
    by_cases c4 : k = 22
    · rw [if_pos c4] at m4 ⊢; exact ihB _ _ m4
    rw [if_neg c4] at m4 ⊢
    by_cases c5 : k = 29
    · rw [if_pos c5] at m4 ⊢; exact m4
    rw [if_neg c5] at m4 ⊢
    by_cases c6 : k = 26
    · rw [if_pos c6] at m4 ⊢; exact ihA _ _ m4
    rw [if_neg c6] at m4 ⊢
    by_cases c7 : k = 28
    · rw [if_pos c7] at m4 ⊢; exact ⟨ihA _ _ m4.1, ihB _ _ m4.2⟩
    rw [if_neg c7]
    trivial
theorem nd_of (t : Tr) : ∀ (m a b v g v' g' p lo hi : Nat) (x : Int32), RepS X T t p lo hi x → hi ≤ 8200 → Ws X t m a b v g v' g' → ∀ p', (m = 3 → p' = p) → NdS X T t p' x := by
  induction t using Tr_ind with
  | hz t hz => intro m a b v g v' g' p lo hi x _ _ _ p' _; exact NdS_z hz
  | h k i e ta tb ihA ihB =>
    intro m a b v g v' g' p lo hi x hr hhi hw p' hp
    rw [NdS_n]
    rw [RepS_n] at hr
    rw [Ws_n] at hw
    unfold RsN at hr
    unfold WsN at hw
    unfold NdN
    by_cases m2 : m = 2
    · rw [if_pos m2] at hw
      obtain ⟨rfl, hw, hib⟩ := hw
      obtain ⟨h1, h2, h3, h4, h5⟩ : x = nI lo ∧ lo < hi ∧ T.1 50 lo = 31 ∧ T.1 57 lo = nI (xP X i) ∧ RepS X T ta (lo + 1) (lo + 1) hi (T.1 52 lo) := hr
      rw [if_neg (by omega), if_neg (by omega)]
      refine ⟨lo, by omega, h1, ?_⟩
      rw [if_pos rfl]
      exact ihA _ _ _ _ _ _ _ _ _ _ _ h5 hhi hw _ (by omega)
    rw [if_neg m2] at hw
    by_cases m1 : m = 1
    · rw [if_pos m1] at hw
      obtain ⟨rfl, c, v1, g1, hwa, hwb⟩ := hw
      obtain ⟨q, c1, h1, h2, h3, h4, h5, h6⟩ : ∃ q c, x = nI q ∧ lo ≤ q ∧ q < c ∧ c ≤ hi ∧ RepS X T ta lo lo c x ∧ RepS X T tb c c hi (T.1 55 q) := hr
      rw [if_neg (by omega), if_pos rfl]
      exact ⟨q, by omega, h1, ihA _ _ _ _ _ _ _ _ _ _ _ h5 (by omega) hwa _ (by omega), ihB _ _ _ _ _ _ _ _ _ _ _ h6 hhi hwb _ (by omega)⟩
    rw [if_neg m1] at hw
    by_cases m3 : m = 3
    · rw [if_pos m3] at hw
      obtain ⟨rfl, c, v1, g1, hwa, hwb⟩ := hw
      obtain ⟨c1, h1, h2, h3, h4⟩ : ∃ c, lo < c ∧ c ≤ hi ∧ RepS X T ta lo lo c (T.1 53 p) ∧ RepS X T tb c c hi (T.1 54 p) := hr
      rw [if_pos rfl, hp m3]
      refine ⟨ihA _ _ _ _ _ _ _ _ _ _ _ h3 (by omega) hwa _ (by omega), ?_⟩
      by_cases z : isZ tb = true
      · exact NdS_z (isZ_t z)
      · rw [if_neg z] at hwb
        exact ihB _ _ _ _ _ _ _ _ _ _ _ h4 hhi hwb _ (by omega)
    rw [if_neg m3] at hw
    by_cases k20 : k = 20
    · subst k20
      rw [if_pos rfl] at hr
      rw [if_neg (by omega), if_neg (by omega)]
      refine ⟨lo, by omega, hr.1, ?_⟩
      rw [if_neg (by omega), if_neg (by omega), if_neg (by omega), if_neg (by omega), if_neg (by omega), if_neg (by omega)]
      exact ⟨hr.2.2.1, hr.2.2.2.1, trivial⟩
    rw [if_neg k20] at hw hr
    by_cases k21 : k = 21
    · subst k21
      rw [if_pos rfl] at hr hw
      obtain ⟨h1, h2, h3, c, h4, h5, h6, h7⟩ := hr
      obtain ⟨w1, c', w2, w3⟩ := hw
      rw [if_neg (by omega), if_neg (by omega)]
      refine ⟨lo, by omega, h1, ?_⟩
      rw [if_neg (by omega), if_pos rfl]
      exact ⟨h2, h3, ihB _ _ _ _ _ _ _ _ _ _ _ h7 hhi w3 _ (fun _ => rfl)⟩
    rw [if_neg k21] at hw hr
    by_cases k12 : k = 12
    · subst k12
      repeat rw [if_neg (by omega)] at hw
      exact hw.elim
    rw [if_neg k12] at hr
    rw [if_neg k12]
    by_cases k22 : k = 22
    · subst k22
      rw [if_pos rfl] at hr hw
      obtain ⟨h1, h2, h3, c, h4, h5, h6, h7⟩ := hr
      obtain ⟨w1, c', w2, w3⟩ := hw
      rw [if_neg (by omega)]
      refine ⟨lo, by omega, h1, ?_⟩
      rw [if_neg (by omega), if_neg (by omega), if_pos rfl]
      exact ⟨h2, h3, ihB _ _ _ _ _ _ _ _ _ _ _ h7 hhi w3 _ (by omega)⟩
    rw [if_neg k22] at hw hr
    by_cases k23 : k = 23
    · subst k23
      rw [if_pos rfl] at hr
      rw [if_neg (by omega)]
      refine ⟨lo, by omega, hr.1, ?_⟩
      rw [if_neg (by omega), if_neg (by omega), if_neg (by omega), if_neg (by omega), if_neg (by omega), if_neg (by omega)]
      exact ⟨hr.2.2.1, hr.2.2.2.1, trivial⟩
    rw [if_neg k23] at hw hr
    by_cases k24 : k = 24 ∨ k = 25 ∨ k = 30
    · rw [if_pos k24] at hr
      obtain ⟨q, h1, h2, h3, h4, h5, h6⟩ := hr
      rw [if_neg (by omega)]
      refine ⟨q, by omega, h1, ?_⟩
      rw [if_neg (by omega), if_neg (by omega), if_neg (by omega), if_neg (by omega), if_neg (by omega), if_neg (by omega)]
      exact ⟨h5, h6, trivial⟩
    rw [if_neg k24] at hr
    rw [if_neg (by omega), if_neg (by omega)] at hw
    by_cases k29 : k = 29
    · subst k29
      rw [if_pos rfl] at hr hw
      obtain ⟨q, h1, h2, h3, h4, h5, h6, h7⟩ := hr
      obtain ⟨w1, _, _, c, c2, w2, w3, w4⟩ := hw
      rw [if_neg (by omega)]
      refine ⟨q, by omega, h1, ?_⟩
      rw [if_neg (by omega), if_neg (by omega), if_neg (by omega), if_pos rfl]
      obtain ⟨y, y1, y2, y3, y4, y5⟩ := RepM_nd _ _ _ _ _ _ h4 w2.1
      exact ⟨h6, h7, y, by omega, y1, y5⟩
    rw [if_neg k29] at hw hr
    by_cases k26 : k = 26
    · subst k26
      rw [if_pos rfl] at hr hw
      obtain ⟨h1, h2, h3, h4, h5, h6⟩ := hr
      rw [if_neg (by omega)]
      refine ⟨lo, by omega, h1, ?_⟩
      rw [if_neg (by omega), if_neg (by omega), if_neg (by omega), if_neg (by omega), if_pos rfl]
      exact ⟨h3, h4, ihA _ _ _ _ _ _ _ _ _ _ _ h6 hhi hw.2.2 _ (by omega)⟩
    rw [if_neg k26] at hw hr
    by_cases k27 : k = 27
    · subst k27
      rw [if_pos rfl] at hr
      rw [if_neg (by omega)]
      refine ⟨lo, by omega, hr.1, ?_⟩
      rw [if_neg (by omega), if_neg (by omega), if_neg (by omega), if_neg (by omega), if_neg (by omega), if_neg (by omega)]
      exact ⟨hr.2.2.1, hr.2.2.2.1, trivial⟩
    rw [if_neg k27] at hw hr
    by_cases k28 : k = 28
    · subst k28
      rw [if_pos rfl] at hr hw
      obtain ⟨h1, h2, h3, c, h4, h5, h6, h7⟩ := hr
      obtain ⟨w1, c', v1, g1, w2, w3⟩ := hw
      rw [if_neg (by omega)]
      refine ⟨lo, by omega, h1, ?_⟩
      rw [if_neg (by omega), if_neg (by omega), if_neg (by omega), if_neg (by omega), if_neg (by omega), if_pos rfl]
      exact ⟨h2, h3, ihA _ _ _ _ _ _ _ _ _ _ _ h6 (by omega) w2 _ (by omega), ihB _ _ _ _ _ _ _ _ _ _ _ h7 hhi w3 _ (by omega)⟩
    · rw [if_neg k28] at hw
      exact hw.elim
end NDD
