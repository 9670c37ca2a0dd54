/-! conditions: which VAR is asked for */
-/
section SUQ
variable {M0 T0 S S' S1 S2 S3 Sf : gSt} {X : Lx} {it e v g n n' n2 m m' m2 k i q c en j a b v' g' dd dd' u s n1 B L p : Nat} {t ta tb : Tr} {x y r w ys no b0 t1 pl' : Int32} {nm : Int64} {st st' s0 : List Int32} {hs : List HD} {jj : T5} {ks js : List T5}
/-- a VAR alone */
-/
theorem lf_c (t : Tr) : tkd X t = 4 → ∃ pl : Int32, ∀ S : gSt, S.1 7 0 = 0 → chk X t 0 0 S = ((nmC S (xN X (lfI t)) pl).1, 0, [j1 5 (nmC S (xN X (lfI t)) pl).2.1 (nmC S (xN X (lfI t)) pl).1 0 0], (nmC S (xN X (lfI t)) pl).2.2) := by
  induction t using Tr_ind with
  | hz t hz =>
    intro h
    unfold tkd at h
    split at h
    · exact absurd rfl (hz _ _ _ _ _)
    · exact absurd h (by decide)
  | h k i e a b ihA ihB =>
    intro h
    have ek : tkd X (tD k i e a b) = if k = 2 then tkd X a else if k = 1 then (if xK X i = 5 then 0 else if xK X i = 27 then 1 else if xK X i = 34 then 2 else if xK X i = 35 then 3 else 4) else if k = 3 then (if xK X i = 49 then 14 else if xK X i = 61 then 16 else 17) else if k = 4 then 15 else if k = 5 then 13 else if k = 6 then 5 else if k = 7 then (if xK X (i + 3 + e) = 49 then 7 else 6) else if k = 8 then (if xK X i = 29 then 8 else if xK X i = 30 then 9 else if xK X i = 31 then 11 else 12) else if k = 9 then 10 else 30 := rfl
    have el : lfI (tD k i e a b) = if k = 2 then lfI a else i := rfl
    rw [ek] at h
    by_cases k2 : k = 2
    · subst k2
      rw [if_pos rfl] at h
      obtain ⟨pl, hp⟩ := ihA h
      refine ⟨pl, fun S h0 => ?_⟩
      rw [el, if_pos rfl, chk_n, if_pos h0]
      have : chN X (chk X a) (chk X b) a b 2 i e 0 0 S = chk X a 0 0 S := rfl
      rw [this]
      exact hp S h0
    rw [if_neg k2] at h
    by_cases k1 : k = 1
    · subst k1
      rw [if_pos rfl] at h
      refine ⟨nI (xP X i), fun S h0 => ?_⟩
      rw [el, if_neg (by decide), chk_n, if_pos h0]
      have : chN X (chk X a) (chk X b) a b 1 i e 0 0 S = lfC X i S := rfl
      rw [this]
      unfold lfC
      by_cases c1 : xK X i = 5
      · rw [if_pos c1] at h; exact absurd h (by decide)
      rw [if_neg c1] at h ⊢
      by_cases c2 : xK X i = 27
      · rw [if_pos c2] at h; exact absurd h (by decide)
      rw [if_neg c2] at h ⊢
      by_cases c3 : xK X i = 34
      · rw [if_pos c3] at h; exact absurd h (by decide)
      rw [if_neg c3] at h ⊢
      by_cases c4 : xK X i = 35
      · rw [if_pos c4] at h; exact absurd h (by decide)
      rw [if_neg c4]
    rw [if_neg k1] at h
    exfalso
    revert h
    repeat' split
    all_goals decide
/-- null alone */
-/
theorem nl_c (t : Tr) : tkd X t = 1 → ∀ S : gSt, S.1 7 0 = 0 → chk X t 0 0 S = (-2, 0, [j1 2 0 0 0 0], S) := by
  induction t using Tr_ind with
  | hz t hz =>
    intro h
    unfold tkd at h
    split at h
    · exact absurd rfl (hz _ _ _ _ _)
    · exact absurd h (by decide)
  | h k i e a b ihA ihB =>
    intro h
    have ek : tkd X (tD k i e a b) = if k = 2 then tkd X a else if k = 1 then (if xK X i = 5 then 0 else if xK X i = 27 then 1 else if xK X i = 34 then 2 else if xK X i = 35 then 3 else 4) else if k = 3 then (if xK X i = 49 then 14 else if xK X i = 61 then 16 else 17) else if k = 4 then 15 else if k = 5 then 13 else if k = 6 then 5 else if k = 7 then (if xK X (i + 3 + e) = 49 then 7 else 6) else if k = 8 then (if xK X i = 29 then 8 else if xK X i = 30 then 9 else if xK X i = 31 then 11 else 12) else if k = 9 then 10 else 30 := rfl
    rw [ek] at h
    by_cases k2 : k = 2
    · subst k2
      rw [if_pos rfl] at h
      intro S h0
      rw [chk_n, if_pos h0]
      have : chN X (chk X a) (chk X b) a b 2 i e 0 0 S = chk X a 0 0 S := rfl
      rw [this]
      exact ihA h S h0
    rw [if_neg k2] at h
    by_cases k1 : k = 1
    · subst k1
      rw [if_pos rfl] at h
      intro S h0
      rw [chk_n, if_pos h0]
      have : chN X (chk X a) (chk X b) a b 1 i e 0 0 S = lfC X i S := rfl
      rw [this]
      unfold lfC
      by_cases c1 : xK X i = 5
      · rw [if_pos c1] at h; exact absurd h (by decide)
      rw [if_neg c1] at h ⊢
      by_cases c2 : xK X i = 27
      · rw [if_pos c2]
      rw [if_neg c2] at h
      exfalso
      revert h
      repeat' split
      all_goals decide
    rw [if_neg k1] at h
    exfalso
    revert h
    repeat' split
    all_goals decide
/-- a VAR against null */
-/
theorem an_c (t : Tr) : ∀ T : gSt, ¬ akN X t T < 0 → ∃ i e a b, (∀ S : gSt, S.1 7 0 = 0 → chk X t 0 0 S = chk X (tD 5 i e a b) 0 0 S) ∧ chK e = 256 ∧ tkd X a = 4 ∧ tkd X b = 1 ∧ ∀ T, akN X t T = akV T (xN X (lfI a)) := by
  induction t using Tr_ind with
  | hz t hz =>
    intro T h
    unfold akN at h
    split at h
    · exact absurd rfl (hz _ _ _ _ _)
    · exact absurd (by decide) h
  | h k i e a b ihA ihB =>
    intro T h
    have ek : ∀ T, akN X (tD k i e a b) T = if k = 2 then akN X a T else if k = 5 ∧ chK e = 256 ∧ tkd X a = 4 ∧ tkd X b = 1 then akV T (xN X (lfI a)) else -1 := fun _ => rfl
    rw [ek] at h
    by_cases k2 : k = 2
    · subst k2
      rw [if_pos rfl] at h
      obtain ⟨i', e', a', b', h1, h2, h3, h4, h5⟩ := ihA T h
      refine ⟨i', e', a', b', fun S h0 => ?_, h2, h3, h4, fun T => by rw [ek, if_pos rfl]; exact h5 T⟩
      rw [chk_n, if_pos h0]
      have : chN X (chk X a) (chk X b) a b 2 i e 0 0 S = chk X a 0 0 S := rfl
      rw [this]
      exact h1 S h0
    rw [if_neg k2] at h
    by_cases c : k = 5 ∧ chK e = 256 ∧ tkd X a = 4 ∧ tkd X b = 1
    · obtain ⟨rfl, c2, c3, c4⟩ := c
      exact ⟨i, e, a, b, fun _ _ => rfl, c2, c3, c4, fun T => by rw [ek, if_neg k2, if_pos ⟨rfl, c2, c3, c4⟩]⟩
    · rw [if_neg c] at h
      exact absurd (by decide) h
/-- what is asked of a VAR in sight */
-/
theorem nm_ok (hf : (nmC S nm pl').2.2.1 7 0 = 0) (hv : SlB S v) : ∃ u s, u < vn S ∧ fd (isVa S nm) (vn S) = nI u ∧ S.1 79 u = nI s ∧ s < 20 ∧ fi (S.1 81 0) s = true ∧ (nmC S nm pl').2.1 = nI s ∧ vaP S u s := by
  have h0 : 0 ≤ fd (isVa S nm) (vn S) := by
    refine Decidable.byContradiction fun w => ?_
    unfold nmC at hf
    rw [if_neg w] at hf
    exact flT_bad (by decide) hf
  rcases fd_v (p := isVa S nm) (vn S) with ⟨z1, _⟩ | ⟨u, u1, u2, z1⟩
  · rw [z1] at h0; exact absurd h0 (by decide)
  obtain ⟨a1, a2, a3, a4⟩ := hv
  obtain ⟨s, s1, s2⟩ := a3 u u1
  have t79 : tf S 79 (nI u) = nI s := by unfold tf; rw [nc (by omega)]; exact s1
  unfold nmC at hf ⊢
  rw [if_pos h0] at hf ⊢
  rw [z1, t79] at hf ⊢
  by_cases c : ((S.1 81 0 >>> (nI s &&& 31)) &&& 1) = 0
  · rw [if_pos c] at hf
    exact absurd hf (flT_bad (by decide))
  rw [if_neg c]
  have f81 : fi (S.1 81 0) s = true := by
    cases hz : fi (S.1 81 0) s with
    | true => rfl
    | false => exact absurd ((fi_b (by omega)).mpr hz) c
  refine ⟨u, s, u1, rfl, s1, by omega, f81, ?_, u1, s1, by omega, f81, by omega⟩
  split <;> rfl
theorem ak_ok (hC : Ck S1) (hF : FW S1 Sf) (hc : cn Sf < 6000) (h1 : ¬ akV S1 nm < 0) (hu : u < vn S1) (hu20 : u < 20) (hfd : fd (isVa S1 nm) (vn S1) = nI u) (hs : S1.1 79 u = nI s) : akV S1 nm = nI s ∧ ∃ p, rowP Sf (S1.1 80 u) p ∧ Sf.1 66 p = 2 := by
  have t79 : tf S1 79 (nI u) = nI s := by unfold tf; rw [nc (by omega)]; exact hs
  have t80 : tf S1 80 (nI u) = S1.1 80 u := by unfold tf; rw [nc (by omega)]
  unfold akV at h1 ⊢
  rw [hfd, if_neg (nI_ge0 (by omega)), t80, t79] at h1 ⊢
  by_cases c1 : S1.1 80 u ≤ 0
  · rw [if_pos c1] at h1; exact absurd (by decide) h1
  rw [if_neg c1] at h1 ⊢
  by_cases c2 : tf S1 66 (S1.1 80 u) = 2
  · rw [if_pos c2]
    refine ⟨rfl, ?_⟩
    rcases hC.2.2.2.2.2.2.2 u hu with e | ⟨p, e, p1, p2⟩
    · rw [e] at c1; exact absurd (by decide) c1
    · have c6 := hF.lt hC.1 hc
      refine ⟨p, ⟨e, p1, Nat.lt_of_lt_of_le p2 (hF.cnle hC.1)⟩, ?_⟩
      have r := hF.row hC.1 hc p2
      have r66 : Sf.1 66 p = S1.1 66 p := (rwT_g (T := Sf) (p := p) (z := rwT S1 p) r).1
      unfold tf at c2
      rw [e, nc (by omega)] at c2
      rw [r66, c2]
  · rw [if_neg c2] at h1; exact absurd (by decide) h1
end SUQ
