/-! an EXPR without the parentheses around it; the last tail of a TERM -/
def brT : Tr → Tr
  | .add (.add (.var k) (.add (.var i) (.var e))) (.add a b) => if k = 2 then brT a else tD k i e a b
  | t => t
/-- the first TERM -/
def fsT : Tr → Tr
  | .add (.add (.var k) (.add (.var i) (.var e))) (.add a b) => if k = 5 then fsT a else tD k i e a b
  | t => t
section CYF
variable {R : RgR} {S S' S0 S1 S2 T T' T1 T2 : gSt} {X : Lx} {nf d i k n m t e w c a b q g f h r s y z lo hi dd mb y1 y2 kd kw kw1 lv lv1 : Nat} {x v x' pl u1 u2 u3 op : Int32} {sl : Int32 → Int32} {ta tb tr : Tr}
theorem brT_n : brT (tD k i e ta tb) = if k = 2 then brT ta else tD k i e ta tb := rfl
theorem fsT_n : fsT (tD k i e ta tb) = if k = 5 then fsT ta else tD k i e ta tb := rfl
theorem XG.mono (tr : Tr) : ∀ (m m' mo : Nat), m ≤ m' → XG X tr m mo → XG X tr m' mo := by
  induction tr using Tr_ind with
  | hz t hz =>
    intro m m' mo hm h
    unfold XG at h ⊢
    split at h
    · exact absurd rfl (hz _ _ _ _ _)
    · exact h
    · exact h.elim
  | h k i e ta tb ihA ihB =>
    intro m m' mo hm h
    rw [XG_n] at h ⊢
    unfold xgN at h ⊢
    by_cases c : mo = 2
    · rw [if_pos c] at h ⊢
      exact ⟨h.1, ihA _ _ _ hm h.2.1, ihB _ _ _ hm h.2.2⟩
    rw [if_neg c] at h ⊢
    by_cases c1 : k = 1
    · rw [if_pos c1] at h ⊢; exact h
    rw [if_neg c1] at h ⊢
    by_cases c2 : k = 2
    · rw [if_pos c2] at h ⊢; exact ⟨h.1, by omega, ihA _ _ _ (by omega) h.2.2⟩
    rw [if_neg c2] at h ⊢
    by_cases c3 : k = 3
    · rw [if_pos c3] at h ⊢; exact ⟨ihA _ _ _ hm h.1, h.2⟩
    rw [if_neg c3] at h ⊢
    by_cases c4 : k = 4
    · rw [if_pos c4] at h ⊢; exact ⟨h.1, ihA _ _ _ hm h.2.1, by omega, ihB _ _ _ (by omega) h.2.2.2⟩
    rw [if_neg c4] at h ⊢
    by_cases c5 : k = 5
    · rw [if_pos c5] at h ⊢; exact ⟨h.1, ihA _ _ _ hm h.2.1, ihB _ _ _ hm h.2.2.1, h.2.2.2⟩
    rw [if_neg c5] at h ⊢
    by_cases c6 : k = 6
    · rw [if_pos c6] at h ⊢; exact ⟨h.1, h.2.1.imp id (fun w => by omega), ihA _ _ _ (by omega) h.2.2.1, h.2.2.2⟩
    rw [if_neg c6] at h ⊢
    by_cases c7 : k = 7
    · rw [if_pos c7] at h ⊢
      refine ⟨h.1, h.2.1.imp id (fun w => by omega), h.2.2.1, h.2.2.2.1, h.2.2.2.2.1, ?_⟩
      have h6 := h.2.2.2.2.2
      by_cases cu : xK X (i + 3 + e) = 49
      · rw [if_pos cu] at h6 ⊢; exact ⟨h6.1, ihA _ _ _ (by omega) h6.2⟩
      · rw [if_neg cu] at h6 ⊢; exact ⟨h6.1, ihA _ _ _ (by omega) h6.2⟩
    rw [if_neg c7] at h ⊢
    by_cases c8 : k = 8
    · rw [if_pos c8] at h ⊢; exact ⟨by omega, ihA _ _ _ (by omega) h.2.1, h.2.2.1, fun w => ihB _ _ _ (by omega) (h.2.2.2 w)⟩
    rw [if_neg c8] at h ⊢
    exact ⟨h.1, h.2.1, by omega, ihA _ _ _ (by omega) h.2.2.2⟩
/-- what stands bare -/
theorem br_all (tr : Tr) : ∀ (m mo a b : Nat), mo ≤ 1 → XG X tr m mo → Wf X tr false a b → (XG X (brT tr) m 1 ∧ (∃ a' b', Wf X (brT tr) false a' b' ∧ b' ≤ b) ∧ (∀ S, chk X tr 0 0 S = chk X (brT tr) 0 0 S) ∧ tkd X tr = tkd X (brT tr) ∧ bgT tr = bgT (brT tr) ∧ kwT tr = kwT (brT tr) ∧ lvT X tr = lvT X (brT tr) ∧ ∃ k i e ta tb, brT tr = tD k i e ta tb ∧ ¬ k = 2) := by
  induction tr using Tr_ind with
  | hz t hz =>
    intro m mo a b hm h hw
    exfalso
    unfold XG at h
    split at h
    · exact absurd rfl (hz _ _ _ _ _)
    · omega
    · exact h.elim
  | h k i e ta tb ihA ihB =>
    intro m mo a b hm h hw
    by_cases c2 : k = 2
    · subst c2
      have h' := h
      have hw' := hw
      rw [XG_n] at h
      unfold xgN at h
      rw [if_neg (by omega), if_neg (by omega), if_pos rfl] at h
      rw [Wf_n] at hw
      unfold WfN at hw
      rw [if_neg (by decide), if_neg (by omega), if_pos rfl] at hw
      obtain ⟨c, f1, f2, f3⟩ := hw
      obtain ⟨g1, ⟨a', b', g2, g2'⟩, g3, g4, g5, g6, g7, g8⟩ := ihA (m - 1) 1 _ _ (by omega) h.2.2 f2
      have eb : brT (tD 2 i e ta tb) = brT ta := rfl
      rw [eb]
      refine ⟨XG.mono _ _ _ _ (by omega) g1, ⟨a', b', g2, by omega⟩, fun S => ?_, ?_, ?_, ?_, ?_, g8⟩
      · rw [← g3 S, chk_n]
        split
        · rfl
        · rename_i hh
          rw [chk_bad hh]
      · rw [← g4]; rfl
      · rw [← g5]; rfl
      · rw [← g6]; rfl
      · rw [← g7]; rfl
    · have eb : brT (tD k i e ta tb) = tD k i e ta tb := by rw [brT_n, if_neg c2]
      rw [eb]
      refine ⟨?_, ⟨a, b, hw, Nat.le_refl _⟩, fun _ => rfl, rfl, rfl, rfl, rfl, k, i, e, ta, tb, rfl, c2⟩
      by_cases c0 : mo = 0
      · rw [c0] at h; exact h.s1
      · have : mo = 1 := by omega
        rw [this] at h; exact h
/-- a TERM with a tail has one to begin with -/
theorem Rc_18 (tr : Tr) : ∀ (lo hi z : Nat), 1 ≤ lo → RcG X T tr 0 lo hi z → ¬ z = 0 → ∃ w, 1 ≤ w ∧ w < hi ∧ T.1 18 lo = nI w := by
  induction tr using Tr_ind with
  | hz t hz =>
    intro lo hi z hl h _
    unfold RcG at h
    split at h
    · exact absurd rfl (hz _ _ _ _ _)
    · omega
    · exact h.elim
  | h k i e ta tb ihA ihB =>
    intro lo hi z hl h hz
    rw [RcG_n] at h
    unfold RcN at h
    rw [if_neg (by omega), if_neg (by omega)] at h
    unfold Rc0 at h
    have sub : ∀ z', lo < z → z < hi → RcG X T ta 0 lo z z' → lkT T lo z' z → ∃ w, 1 ≤ w ∧ w < hi ∧ T.1 18 lo = nI w := by
      intro z' h1 h2 h3 h4
      by_cases c0 : z' = 0
      · unfold lkT at h4
        rw [if_pos c0] at h4
        exact ⟨z, by omega, h2, h4⟩
      · obtain ⟨w, w1, w2, w3⟩ := ihA lo z z' hl h3 c0
        exact ⟨w, w1, by omega, w3⟩
    by_cases c1 : k = 1
    · rw [if_pos c1] at h; exact absurd h.2.1 hz
    rw [if_neg c1] at h
    by_cases c2 : k = 2
    · rw [if_pos c2] at h; exact absurd h.2.1 hz
    rw [if_neg c2] at h
    by_cases c3 : k = 3
    · rw [if_pos c3] at h
      obtain ⟨h1, h2, ⟨z', h3, h4⟩, _⟩ := h
      exact sub z' h1 (by omega) h3 h4
    rw [if_neg c3] at h
    by_cases c4 : k = 4
    · rw [if_pos c4] at h
      obtain ⟨h1, h2, ⟨z', h3, h4⟩, _⟩ := h
      exact sub z' h1 h2 h3 h4
    rw [if_neg c4] at h
    by_cases c6 : k = 6
    · rw [if_pos c6] at h; exact absurd h.2.1 hz
    rw [if_neg c6] at h
    by_cases c7 : k = 7
    · rw [if_pos c7] at h; exact absurd h.2.1 hz
    rw [if_neg c7] at h
    by_cases c8 : k = 8
    · rw [if_pos c8] at h; exact absurd h.2.1 hz
    rw [if_neg c8] at h
    by_cases c9 : k = 9
    · rw [if_pos c9] at h; exact absurd h.2.1 hz
    rw [if_neg c9] at h
    exact h.elim
/-- an EXPR with an operator has a second TERM; its first TERM -/
theorem Rc_13 (tr : Tr) : ∀ (lo hi z : Nat), 1 ≤ lo → RcG X T tr 1 lo hi z → (opN tr = 0 ∧ z = lo ∨ 1 ≤ opN tr ∧ ∃ w, 1 ≤ w ∧ w < hi ∧ T.1 13 lo = nI w) ∧ ∃ h1 z1, RcG X T (fsT tr) 0 lo h1 z1 ∧ h1 ≤ hi ∧ fnT T lo z1 := by
  induction tr using Tr_ind with
  | hz t hz =>
    intro lo hi z hl h
    unfold RcG at h
    split at h
    · exact absurd rfl (hz _ _ _ _ _)
    · omega
    · exact h.elim
  | h k i e ta tb ihA ihB =>
    intro lo hi z hl h
    rw [RcG_n] at h
    unfold RcN at h
    rw [if_neg (by omega), if_pos rfl] at h
    rw [opN_n, fsT_n]
    by_cases c5 : k = 5
    · rw [if_pos c5] at h ⊢
      obtain ⟨h1, h2, ⟨y', h3, h4⟩, h5, h6⟩ := h
      obtain ⟨g1, hh, z1, g2, g3, g4⟩ := ihA lo z y' hl h3
      rw [if_pos c5]
      refine ⟨Or.inr ⟨by omega, ?_⟩, hh, z1, g2, by omega, g4⟩
      rcases g1 with ⟨_, g⟩ | ⟨_, w, w1, w2, w3⟩
      · rw [g] at h4
        exact ⟨z, by omega, h2, h4⟩
      · exact ⟨w, w1, by omega, w3⟩
    · rw [if_neg c5] at h ⊢
      rw [if_neg c5]
      obtain ⟨h1, z0, h2, h3⟩ := h
      refine ⟨Or.inl ⟨rfl, h1⟩, hi, z0, ?_, Nat.le_refl _, h3⟩
      rw [RcG_n]
      unfold RcN
      rw [if_neg (by omega), if_neg (by omega)]
      exact h2
/-- lastTail -/
theorem c_ltl (tr : Tr) : ∀ (lo hi z fl a b : Nat), 1 ≤ lo → hi ≤ 4008 → RcG X T tr 0 lo hi z → Wf X tr false a b → b ≤ 4000 → tlN tr < fl → rl_Source_lastTail_12 (PP nf d) nf fl T (0 : Int32) (T.1 18 lo) (0 : Int32) = rl_Source_lastTail_12 (PP nf d) nf (fl - tlN tr) T (nI z) (if z = 0 then T.1 18 lo else T.1 13 z) (nI (tlN tr)) := by
  induction tr using Tr_ind with
  | hz t hz =>
    intro lo hi z fl a b _ _ h
    unfold RcG at h
    split at h
    · exact absurd rfl (hz _ _ _ _ _)
    · intro _ _ _; omega
    · exact h.elim
  | h k i e ta tb ihA ihB =>
    intro lo hi z fl a b hl hh h hw hb hf
    have tlw := (tl_le _ a b hw).1
    rw [tlN_n] at hf tlw ⊢
    rw [RcG_n] at h
    unfold RcN at h
    rw [if_neg (by omega), if_neg (by omega)] at h
    have sub : ∀ z' b', lo < z → z < hi → RcG X T ta 0 lo z z' → lkT T lo z' z → (k = 3 ∨ k = 4) → Wf X ta false a b' → b' ≤ 4000 → rl_Source_lastTail_12 (PP nf d) nf fl T (0 : Int32) (T.1 18 lo) (0 : Int32) = rl_Source_lastTail_12 (PP nf d) nf (fl - (if k = 3 ∨ k = 4 then tlN ta + 1 else 0)) T (nI z) (if z = 0 then T.1 18 lo else T.1 13 z) (nI (if k = 3 ∨ k = 4 then tlN ta + 1 else 0)) := by
      intro z' b' h1 h2 h3 h4 hk hw2 hb2
      rw [if_pos hk] at hf tlw ⊢
      rw [ihA lo z z' fl a b' hl (by omega) h3 hw2 hb2 (by omega)]
      have lk : (if z' = 0 then T.1 18 lo else T.1 13 z') = nI z := by
        unfold lkT at h4
        split
        · rename_i c0
          rw [if_pos c0] at h4
          exact h4
        · rename_i c0
          rw [if_neg c0] at h4
          exact h4
      obtain ⟨g, hg⟩ : ∃ g, fl - tlN ta = g + 1 := ⟨fl - tlN ta - 1, by omega⟩
      rw [hg, lk, rl_Source_lastTail_12, if_neg (fun w => by have := nI_inj (a := z) (b := 0) (by omega) (by omega) w; omega), if_neg (fun w => by have := (nI_leI (a := 4008) (b := tlN ta) (by omega) (by omega)).mp w; omega), gd, if_pos (nin (by omega) (by omega)), nc (by omega), vK, vK, nI_1, if_neg (show ¬ z = 0 by omega), show fl - (tlN ta + 1) = g by omega]
    unfold Rc0 at h
    by_cases c3 : k = 3
    · subst c3
      rw [if_neg (by omega), if_neg (by omega), if_pos rfl] at h
      obtain ⟨h1, h2, ⟨z', h3, h4⟩, _⟩ := h
      rw [Wf_n] at hw
      unfold WfN at hw
      rw [if_neg (by decide), if_neg (by omega), if_neg (by omega), if_pos rfl] at hw
      exact sub z' _ h1 (by omega) h3 h4 (Or.inl rfl) hw.1 (by omega)
    by_cases c4 : k = 4
    · subst c4
      rw [if_neg (by omega), if_neg (by omega), if_neg (by omega), if_pos rfl] at h
      obtain ⟨h1, h2, ⟨z', h3, h4⟩, _⟩ := h
      rw [Wf_n] at hw
      unfold WfN at hw
      rw [if_neg (by decide), if_neg (by omega), if_neg (by omega), if_neg (by omega), if_pos rfl] at hw
      obtain ⟨f1, c, f2, f3⟩ := hw
      have := (Wf_le _ false _ _ f2).1 rfl
      exact sub z' _ h1 h2 h3 h4 (Or.inr rfl) f1 (by omega)
    have z0 : z = 0 := by
      by_cases c1 : k = 1
      · rw [if_pos c1] at h; exact h.2.1
      rw [if_neg c1] at h
      by_cases c2 : k = 2
      · rw [if_pos c2] at h; exact h.2.1
      rw [if_neg c2, if_neg c3, if_neg c4] at h
      by_cases c6 : k = 6
      · rw [if_pos c6] at h; exact h.2.1
      rw [if_neg c6] at h
      by_cases c7 : k = 7
      · rw [if_pos c7] at h; exact h.2.1
      rw [if_neg c7] at h
      by_cases c8 : k = 8
      · rw [if_pos c8] at h; exact h.2.1
      rw [if_neg c8] at h
      by_cases c9 : k = 9
      · rw [if_pos c9] at h; exact h.2.1
      rw [if_neg c9] at h
      exact h.elim
    rw [if_neg (by omega), if_pos z0, z0]
    rfl
theorem c_lastT (hX : XO X) (hnf : 16385 ≤ nf) (hl : 1 ≤ lo) (hh : hi ≤ 4008) (h : RcG X T tr 0 lo hi z) (hf : fnT T lo z) (hw : Wf X tr false a b) (hb : b ≤ xn X) (hd : 1 ≤ d) : PP nf d 32 T [nI lo] [] = some (nI z, 0, T) := by
  obtain ⟨d, rfl⟩ : ∃ g, d = g + 1 := ⟨d - 1, by omega⟩
  have hxn := hX.1
  have tl := (tl_le tr a b hw).1
  have le := (Rc_le tr 0 lo hi z (by omega) h).1 rfl
  rw [e_Source_lastTail]
  unfold rb_Source_lastTail
  rw [gd, if_pos (nin (by omega) (by omega)), nc (by omega), vK, c_ltl tr lo hi z nf a b hl hh h hw (by omega) (by omega)]
  obtain ⟨fl, hfl⟩ : ∃ g, nf - tlN tr = g + 1 := ⟨nf - tlN tr - 1, by omega⟩
  have lk : (if z = 0 then T.1 18 lo else T.1 13 z) = 0 := by
    unfold fnT at hf
    split
    · rename_i c0
      rw [if_pos c0] at hf
      exact hf
    · rename_i c0
      rw [if_neg c0] at hf
      exact hf
  rw [hfl, lk, rl_Source_lastTail_12, if_pos rfl]
end CYF
