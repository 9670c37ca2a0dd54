/-! bare; a TERM up to one of its tails -/
section CYG
variable {R : RgR} {S S' S0 S1 S2 T T' T1 T2 : gSt} {X : Lx} {nf d i k n m t e w c a b q g f h r s y z lo hi dd mb y1 y2 kd kw kw1 lv lv1 st : Nat} {x v x' pl u1 u2 u3 op : Int32} {sl : Int32 → Int32} {ta tb tr : Tr}
theorem c_isBare (hlo : lo < 4008) (hd : 1 ≤ d) : PP nf d 31 T [nI lo] [] = some ((if T.1 11 lo = 42 ∧ T.1 18 lo = 0 then 1 else 0), 0, T) := by
  obtain ⟨d, rfl⟩ : ∃ g, d = g + 1 := ⟨d - 1, by omega⟩
  rw [e_Source_isBareParen]
  unfold rb_Source_isBareParen
  have zl : inb (nI lo) 4008 := nin hlo (by omega)
  simp only [gd, if_pos zl, nc (show lo < 100000 by omega)]
  by_cases c1 : T.1 11 lo = 42
  · rw [if_pos c1]
    by_cases c2 : T.1 18 lo = 0
    · rw [if_pos c2, if_pos ⟨c1, c2⟩]
    · rw [if_neg c2, if_neg (fun w => c2 w.2)]
  · rw [if_neg c1, if_neg (fun w => c1 w.1)]
/-- which PRIMARY stands at a node -/
theorem Rc_11 {z : Nat} (hX : XO X) (h : RcG X T (tD k i e ta tb) 0 lo hi z) (hg : XG X (tD k i e ta tb) m 1) (h2 : ¬ k = 2) (h3 : ¬ k = 3) (h4 : ¬ k = 4) : ¬ T.1 11 lo = 42 := by
  rw [RcG_n] at h
  unfold RcN at h
  rw [if_neg (by omega), if_neg (by omega)] at h
  unfold Rc0 at h
  rw [XG_n] at hg
  unfold xgN at hg
  rw [if_neg (by omega)] at hg
  have xl := (hX.2 i).2
  have lit : ∀ j, j < 100 → ¬ j = 42 → ¬ nI j = (42 : Int32) := fun j hj hn w => hn (nI_inj (b := 42) (by omega) (by omega) w)
  by_cases c1 : k = 1
  · rw [if_pos c1] at h hg
    rw [h.2.2.1]
    exact lit _ (by omega) (by omega)
  rw [if_neg c1, if_neg h2] at h hg
  rw [if_neg h3] at h hg
  rw [if_neg h4] at h hg
  by_cases c5 : k = 5
  · rw [if_neg (by omega), if_neg (by omega), if_neg (by omega), if_neg (by omega)] at h
    exact h.elim
  rw [if_neg c5] at hg
  by_cases c6 : k = 6
  · rw [if_pos c6] at h
    rw [h.2.2.1]
    decide
  rw [if_neg c6] at h hg
  by_cases c7 : k = 7
  · rw [if_pos c7] at h
    rw [h.2.2.1]
    decide
  rw [if_neg c7] at h hg
  by_cases c8 : k = 8
  · rw [if_pos c8] at h hg
    rw [h.2.2.1]
    exact lit _ (by omega) (by omega)
  rw [if_neg c8] at h
  by_cases c9 : k = 9
  · rw [if_pos c9] at h
    rw [h.2.2.1]
    decide
  rw [if_neg c9] at h
  exact h.elim
theorem c_brl (hX : XO X) (hd : 1 ≤ d) (tr : Tr) : ∀ (lo hi c fl m : Nat), cRX T (RcG X T tr) lo hi → 1 ≤ lo → hi ≤ 4008 → XG X tr m 1 → m + c ≤ 20 → 20 < fl + c → ∃ lo', lo ≤ lo' ∧ lo' < hi ∧ rl_Source_bare_4 (PP nf d) nf fl T (nI lo) (nI c) = some (nI lo', 0, T) ∧ cRX T (RcG X T (brT tr)) lo' hi := by
  induction tr using Tr_ind with
  | hz t hz =>
    intro lo hi c fl m h _ _ hg
    unfold XG at hg
    split at hg
    · exact absurd rfl (hz _ _ _ _ _)
    · omega
    · exact hg.elim
  | h k i e ta tb ihA ihB =>
    intro lo hi c fl m h hl hh hg hm hf
    have h' := h
    obtain ⟨y, h1, h2⟩ := h
    have le := (Rc_le _ 1 _ _ _ (by omega) h1).2.1 rfl
    obtain ⟨o1, hh1, z1, o2, o3, o4⟩ := Rc_13 _ lo hi y hl h1
    have le2 := (Rc_le _ 0 _ _ _ (by omega) o2).1 rfl
    have zl : inb (nI lo) 4008 := nin (by omega) (by omega)
    obtain ⟨fl, rfl⟩ : ∃ g, fl = g + 1 := ⟨fl - 1, by omega⟩
    -- it stands bare already
    have stop : (¬ (T.1 11 lo = 42 ∧ T.1 18 lo = 0) ∨ ¬ T.1 13 lo = 0) → ¬ k = 2 → ∃ lo', lo ≤ lo' ∧ lo' < hi ∧ rl_Source_bare_4 (PP nf d) nf (fl + 1) T (nI lo) (nI c) = some (nI lo', 0, T) ∧ cRX T (RcG X T (brT (tD k i e ta tb))) lo' hi := by
      intro hs hk
      refine ⟨lo, Nat.le_refl _, by omega, ?_, by rw [brT_n, if_neg hk]; exact h'⟩
      rw [rl_Source_bare_4]
      by_cases cc : (20 : Int32) ≤ nI c
      · rw [if_pos cc]
      rw [if_neg cc, c_isBare (by omega) hd, bis]
      by_cases cb : T.1 11 lo = 42 ∧ T.1 18 lo = 0
      · have h13 : ¬ T.1 13 lo = 0 := hs.elim (fun w => absurd cb w) id
        rw [if_pos cb, if_neg (by decide), gd, if_pos zl, nc (by omega), if_neg h13]
      · rw [if_neg cb, if_pos rfl]
    by_cases c2 : k = 2
    · subst c2
      rw [RcG_n] at h1
      unfold RcN at h1
      rw [if_neg (by omega), if_pos rfl, if_neg (by omega)] at h1
      obtain ⟨e1, z0, r1, r2⟩ := h1
      unfold Rc0 at r1
      rw [if_neg (by omega), if_pos rfl] at r1
      obtain ⟨q1, q2, q3, q4, q5, q6⟩ := r1
      unfold fnT at r2
      rw [if_pos q2] at r2
      rw [XG_n] at hg
      unfold xgN at hg
      rw [if_neg (by omega), if_neg (by omega), if_pos rfl] at hg
      obtain ⟨lo', w1, w2, w3, w4⟩ := ihA (lo + 1) hi (c + 1) fl (m - 1) q6 (by omega) hh hg.2.2 (by omega) (by omega)
      refine ⟨lo', by omega, w2, ?_, w4⟩
      rw [rl_Source_bare_4, if_neg (fun w => by have := (nI_leI (a := 20) (b := c) (by omega) (by omega)).mp w; omega), c_isBare (by omega) hd, bis, if_pos (show T.1 11 lo = 42 ∧ T.1 18 lo = 0 from ⟨q3, r2⟩), if_neg (show ¬ (1 : Int32) = 0 by decide), gd, if_pos zl, nc (by omega), if_pos (by rw [← e1]; exact h2), gd, if_pos zl, vK, vK, nI_1, q5]
      exact w3
    by_cases c5 : k = 5
    · subst c5
      refine stop (Or.inr ?_) (by omega)
      rcases o1 with ⟨w, _⟩ | ⟨_, w, w1, w2, w3⟩
      · rw [opN_n, if_pos rfl] at w; omega
      · rw [w3]
        exact fun v => by have := nI_inj (a := w) (b := 0) (by omega) (by omega) v; omega
    rw [fsT_n, if_neg c5] at o2
    by_cases c3 : k = 3 ∨ k = 4
    · refine stop (Or.inl fun w => ?_) c2
      have zn : ¬ z1 = 0 := by
        have o2' := o2
        rw [RcG_n] at o2'
        unfold RcN at o2'
        rw [if_neg (by omega), if_neg (by omega)] at o2'
        unfold Rc0 at o2'
        rcases c3 with v | v
        · rw [if_neg (by omega), if_neg (by omega), if_pos v] at o2'; omega
        · rw [if_neg (by omega), if_neg (by omega), if_neg (by omega), if_pos v] at o2'; omega
      obtain ⟨w', w1, w2, w3⟩ := Rc_18 _ lo hh1 z1 hl o2 zn
      rw [w3] at w
      have := nI_inj (a := w') (b := 0) (by omega) (by omega) w.2
      omega
    · exact stop (Or.inl fun w => Rc_11 hX o2 hg c2 (by omega) (by omega) w.1) c2
/-- bare -/
theorem c_bare (hX : XO X) (hnf : 16385 ≤ nf) (h : cRX T (RcG X T tr) lo hi) (hl : 1 ≤ lo) (hh : hi ≤ 4008) (hg : XG X tr m 1) (hm : m ≤ 20) (hd : 2 ≤ d) : ∃ lo', lo ≤ lo' ∧ lo' < hi ∧ PP nf d 29 T [nI lo] [] = some (nI lo', 0, T) ∧ cRX T (RcG X T (brT tr)) lo' hi := by
  obtain ⟨d, rfl⟩ : ∃ g, d = g + 1 := ⟨d - 1, by omega⟩
  obtain ⟨lo', w1, w2, w3, w4⟩ := c_brl (nf := nf) (d := d) hX (by omega) tr lo hi 0 nf m h hl hh hg (by omega) (by omega)
  refine ⟨lo', w1, w2, ?_, w4⟩
  rw [e_Source_bare]
  unfold rb_Source_bare
  exact w3
/-- a TERM is checked up to a tail, or to its end -/
theorem CE0.stop (hC : CE0 nf X tr) (hX : XO X) (hnf : 16385 ≤ nf) (hP : CeP X T tr 0 lo hi z m dd d a b) (hs1 : st = 0 ∨ hi ≤ st) (hs2 : st < 4008) (hlk : (if z = 0 then T.1 18 lo else T.1 13 z) = nI st) : wp (PP nf (d + 1) 148 T [nI lo, nI st, nI dd] []) (fun r _ T' => ∃ y, r = nI y ∧ CeQ X T tr y T') := by
  have hxn := hX.1
  have lh := (Rc_le tr 0 lo hi z (by omega) hP.1).1 rfl
  have hl := hP.2.1
  have hh := hP.2.2.1
  have h20 := hP.2.2.2.2.2.2.1
  have tl := (tl_le tr a b hP.2.2.2.1).1
  have hb := hP.2.2.2.2.1
  rw [e_Exprs_checkTerm]
  unfold rb_Exprs_checkTerm
  rw [if_neg (fun w => by have := nI_inj (a := lo) (b := 0) (by omega) (by omega) w; omega), if_pos (show nI dd ≤ 20 from (nI_leI (a := dd) (b := 20) (by omega) (by omega)).mpr (by omega))]
  refine hC T lo hi z a b m dd d st _ hP hs1 hs2 ?_
  intro y T' hq
  obtain ⟨fl, hfl⟩ : ∃ g, nf - tlN tr = g + 1 := ⟨nf - tlN tr - 1, by omega⟩
  rw [hfl, hlk, rl_Exprs_checkTerm_44]
  by_cases c0 : st = 0
  · rw [c0, if_pos (show nI 0 = (0 : Int32) from rfl)]
    exact wp_some ⟨y, rfl, hq⟩
  · rw [if_neg (fun w => by have := nI_inj (a := st) (b := 0) (by omega) (by omega) w; omega), if_pos rfl]
    exact wp_some ⟨y, rfl, hq⟩
end CYG
