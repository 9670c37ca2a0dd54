/-! where an EXPR of the class begins -/
/-- how many parentheses stand ahead of a tree -/
def pcT : Tr → Nat
  | .add (.add (.var k) (.add (.var _) (.var _))) (.add a _) => if k = 2 then pcT a + 1 else if k = 3 ∨ k = 4 ∨ k = 5 then pcT a else 0
  | _ => 0
/-- the first PRIMARY that isn't a parenthesis is none -/
def fsL (X : Lx) : Tr → Prop
  | .add (.add (.var k) (.add (.var i) (.var _))) (.add a _) => if k = 2 ∨ k = 3 ∨ k = 4 ∨ k = 5 then fsL X a else if k = 1 ∨ k = 8 then xK X i ≠ 42 else True
  | _ => True
section CBG
variable {nf d : Nat} {T T' : gSt} {X : Lx} {i j k p q m n e c z lo hi t : Nat} {ta tb tr : Tr} {x : Int32}
theorem pcT_n : pcT (tD k i e ta tb) = if k = 2 then pcT ta + 1 else if k = 3 ∨ k = 4 ∨ k = 5 then pcT ta else 0 := rfl
theorem fsL_n : fsL X (tD k i e ta tb) = if k = 2 ∨ k = 3 ∨ k = 4 ∨ k = 5 then fsL X ta else if k = 1 ∨ k = 8 then xK X i ≠ 42 else True := rfl
abbrev FsQ (X : Lx) (m : Nat) (r : ER) : Prop := ∀ tr j, r = .ok (tr, j) → pcT tr + 1 ≤ m ∧ fsL X tr
theorem fs_tails {G : Nat → Nat → ER} : ∀ (f : Nat) (tr : Tr) (i : Nat), pcT tr + 1 ≤ m ∧ fsL X tr → FsQ X m (pTails (xK X) G f tr i) := by
  intro f
  induction f with
  | zero => intro tr i _ t' j h; rw [pTails] at h; cases h
  | succ f ih =>
    intro tr i h0 t' j h
    rw [pTails_s] at h
    split at h
    · generalize pTl (xK X) G i = r at h
      cases r with
      | error e => cases h
      | ok y =>
        obtain ⟨a, j2⟩ := y
        dsimp only [eb] at h
        refine ih _ _ ?_ t' j h
        unfold tlT
        split
        · rw [pcT_n, fsL_n, if_neg (by omega), if_pos (by omega), if_pos (by omega)]; exact h0
        · rw [pcT_n, fsL_n, if_neg (by omega), if_pos (by omega), if_pos (by omega)]; exact h0
    · cases h
      exact h0
theorem fs_prim {G : Nat → Nat → ER} (hG : ∀ i, FsQ X m (G 0 i)) : FsQ X (m + 1) (pPrim (xK X) G i) := by
  intro tr j h
  unfold pPrim at h
  by_cases c : xK X i = 42
  · rw [if_pos c] at h
    have g := hG (i + 1)
    generalize G 0 (i + 1) = r at *
    cases r with
    | error e => cases h
    | ok y =>
      obtain ⟨a, j2⟩ := y
      dsimp only [eb] at h
      unfold ek at h
      split at h
      · cases h
        have := g a j2 rfl
        rw [pcT_n, fsL_n, if_pos rfl, if_pos (Or.inl rfl)]
        exact ⟨by omega, this.2⟩
      · cases h
  rw [if_neg c] at h
  have leaf : ∀ k e a b, (k = 1 ∨ k = 6 ∨ k = 7 ∨ k = 8 ∨ k = 9) → pcT (tD k i e a b) + 1 ≤ m + 1 ∧ fsL X (tD k i e a b) := by
    intro k e a b hk
    rw [pcT_n, fsL_n, if_neg (by omega), if_neg (by omega), if_neg (by omega)]
    refine ⟨by omega, ?_⟩
    split
    · exact c
    · trivial
  have eb1 : ∀ (r : ER) (f : Tr → Nat → ER), (∀ a j2, f a j2 = .ok (tr, j) → pcT tr + 1 ≤ m + 1 ∧ fsL X tr) → eb r f = .ok (tr, j) → pcT tr + 1 ≤ m + 1 ∧ fsL X tr := by
    intro r f hf he
    cases r with
    | error e => cases he
    | ok y => exact hf _ _ he
  have ek1 : ∀ (k i' : Nat) (r : ER), (r = .ok (tr, j) → pcT tr + 1 ≤ m + 1 ∧ fsL X tr) → ek (xK X) k i' r = .ok (tr, j) → pcT tr + 1 ≤ m + 1 ∧ fsL X tr := by
    intro k i' r hr he
    unfold ek at he
    split at he
    · exact hr he
    · cases he
  have ok1 : ∀ k e a b (j' : Nat), (k = 1 ∨ k = 6 ∨ k = 7 ∨ k = 8 ∨ k = 9) → (.ok (tD k i e a b, j') : ER) = .ok (tr, j) → pcT tr + 1 ≤ m + 1 ∧ fsL X tr := by
    intro k e a b j' hk he
    cases he
    exact leaf k e a b hk
  repeat' split at h
  all_goals first
    | exact ok1 _ _ _ _ _ (by omega) h
    | exact eb1 _ _ (fun a j2 h => ok1 _ _ _ _ _ (by omega) h) h
    | exact ek1 _ _ _ (fun h => eb1 _ _ (fun a j2 h => ok1 _ _ _ _ _ (by omega) h) h) h
    | exact ek1 _ _ _ (fun h => eb1 _ _ (fun a j2 h => ek1 _ _ _ (fun h => ok1 _ _ _ _ _ (by omega) h) h) h) h
    | exact ek1 _ _ _ (fun h => ek1 _ _ _ (fun h => eb1 _ _ (fun a j2 h => ek1 _ _ _ (fun h => ok1 _ _ _ _ _ (by omega) h) h) h) h) h
    | exact ek1 _ _ _ (fun h => ek1 _ _ _ (fun h => eb1 _ _ (fun a j2 h => ek1 _ _ _ (fun h => eb1 _ _ (fun b j3 h => ek1 _ _ _ (fun h => ok1 _ _ _ _ _ (by omega) h) h) h) h) h) h) h
    | exact ek1 _ _ _ (fun h => ek1 _ _ _ (fun h => ek1 _ _ _ (fun h => ek1 _ _ _ (fun h => eb1 _ _ (fun a j2 h => ek1 _ _ _ (fun h => ok1 _ _ _ _ _ (by omega) h) h) h) h) h) h) h
    | exact ek1 _ _ _ (fun h => ek1 _ _ _ (fun h => ek1 _ _ _ (fun h => eb1 _ _ (fun a j2 h => ok1 _ _ _ _ _ (by omega) h) h) h) h) h
    | (refine ek1 _ _ _ (fun h => ek1 _ _ _ (fun h => ?_) h) h
       split at h
       · exact ek1 _ _ _ (fun h => ek1 _ _ _ (fun h => eb1 _ _ (fun a j2 h => ek1 _ _ _ (fun h => ok1 _ _ _ _ _ (by omega) h) h) h) h) h
       · exact ek1 _ _ _ (fun h => eb1 _ _ (fun a j2 h => ok1 _ _ _ _ _ (by omega) h) h) h)
    | cases h
theorem fs_term {G : Nat → Nat → ER} (hG : ∀ i, FsQ X m (G 0 i)) : FsQ X (m + 1) (pTerm (xK X) G i) := by
  intro tr j h
  unfold pTerm at h
  have g := fs_prim (i := i) hG
  generalize pPrim (xK X) G i = r at *
  cases r with
  | error e => cases h
  | ok y =>
    obtain ⟨a, j2⟩ := y
    exact fs_tails 4001 a j2 (g a j2 rfl) tr j h
theorem fs_ops {G : Nat → Nat → ER} : ∀ (f : Nat) (tr : Tr) (i : Nat), pcT tr + 1 ≤ m ∧ fsL X tr → FsQ X m (pOps (xK X) G f tr i) := by
  intro f
  induction f with
  | zero => intro tr i _ t' j h; rw [pOps] at h; cases h
  | succ f ih =>
    intro tr i h0 t' j h
    rw [pOps] at h
    split at h
    · generalize pTerm (xK X) G (i + 1) = r at h
      cases r with
      | error e => cases h
      | ok y =>
        obtain ⟨a, j2⟩ := y
        dsimp only [eb] at h
        refine ih _ _ ?_ t' j h
        rw [pcT_n, fsL_n, if_neg (by omega), if_pos (by omega), if_pos (by omega)]; exact h0
    · cases h
      exact h0
theorem pEx_fs : ∀ (m md i : Nat), FsQ X m (pEx (xK X) m md i) := by
  intro m
  induction m with
  | zero => intro md i tr j h; cases h
  | succ m ih =>
    intro md i tr j h
    rw [pEx] at h
    have g := fs_term (i := i) (G := pEx (xK X) m) (fun i => ih 0 i)
    split at h
    · unfold pExpr at h
      generalize pTerm (xK X) (pEx (xK X) m) i = r at *
      cases r with
      | error e => cases h
      | ok y =>
        obtain ⟨a, j2⟩ := y
        exact fs_ops 4001 a j2 (g a j2 rfl) tr j h
    · exact g tr j h
/-- the loop to the first node that isn't a parenthesis -/
theorem c_bgl (hX : XO X) (hT : TkC X T) (tr : Tr) : ∀ (mo lo hi z c fl a b : Nat), mo ≤ 1 → RcG X T tr mo lo hi z → hi ≤ 4008 → pcT tr + c ≤ 20 → pcT tr < fl → fsL X tr → Wf X tr false a b → b ≤ xn X → rl_Source_beginOf_4 (PP nf (d + 1)) nf fl T (nI lo) (nI c) = some (nI (xP X (bgT tr)), 0, T) := by
  induction tr using Tr_ind with
  | hz t hz =>
    intro mo lo hi z c fl a b hm h
    unfold RcG at h
    split at h
    · exact absurd rfl (hz _ _ _ _ _)
    · exact absurd h.1 (by omega)
    · exact h.elim
  | h k i e ta tb ihA ihB =>
    intro mo lo hi z c fl a b hm h hhi hc hfl hf hw hb
    have hxn := hX.1
    rw [pcT_n] at hc hfl
    rw [fsL_n] at hf
    rw [bgT_n]
    have hw' : WfN X (Wf X ta) (Wf X tb) k i e false a b := hw
    unfold WfN at hw'
    rw [if_neg (by decide)] at hw'
    obtain ⟨fl, rfl⟩ : ∃ g, fl = g + 1 := ⟨fl - 1, by omega⟩
    -- a node that is its own beginning
    have leaf : ∀ kd : Int32, T.1 11 lo = kd → ¬ kd = 42 → T.1 12 lo = nI i → i < 100000 → lo < 4008 → rl_Source_beginOf_4 (PP nf (d + 1)) nf (fl + 1) T (nI lo) (nI c) = some (nI (xP X i), 0, T) := by
      intro kd h1 h2 h3 h4 h5
      rw [rl_Source_beginOf_4]
      simp only [gd, if_pos (nin h5 (by omega) : inb (nI lo) 4008), nc (show lo < 100000 by omega)]
      rw [h1, if_neg h2, h3, c_start hX hT h4, bis]
      split <;> rfl
    have r0 : ∀ z, Rc0 X T (RcG X T ta) (RcG X T tb) (isZ ta) k i e lo hi z → rl_Source_beginOf_4 (PP nf (d + 1)) nf (fl + 1) T (nI lo) (nI c) = some (nI (xP X (if k = 2 ∨ k = 3 ∨ k = 4 ∨ k = 5 then bgT ta else i)), 0, T) := by
      intro z h
      unfold Rc0 at h
      by_cases c1 : k = 1
      · rw [if_pos c1] at h hw'
        rw [if_neg (by omega)]
        rw [if_neg (by omega), if_pos (Or.inl c1)] at hf
        refine leaf _ h.2.2.1 (fun w => hf ?_) h.2.2.2 (by omega) (by omega)
        have := (hX.2 i).2
        exact nI_inj (b := 42) (by omega) (by omega) w
      rw [if_neg c1] at h hw'
      by_cases c2 : k = 2
      · rw [if_pos c2] at h hw'
        rw [if_pos c2] at hc hfl
        rw [if_pos (Or.inl c2)] at hf ⊢
        obtain ⟨h0, h1, h2, h3, h4, y, h5, h6⟩ := h
        obtain ⟨cc, w1, w2, w3⟩ := hw'
        rw [rl_Source_beginOf_4, if_neg (fun w => by
          have := (nI_leI (a := 20) (b := c) (by omega) (by omega)).mp w
          omega)]
        simp only [gd, if_pos (nin (show lo < 4008 by omega) (by omega) : inb (nI lo) 4008), nc (show lo < 100000 by omega)]
        rw [h2, if_pos rfl, vK, vK, h4, nI_1]
        exact ihA 1 (lo + 1) hi y (c + 1) fl (a + 1) cc (by omega) h5 hhi (by omega) (by omega) hf w2 (by omega)
      rw [if_neg c2] at h hw' hc hfl
      by_cases c3 : k = 3
      · rw [if_pos c3] at h hw'
        rw [if_pos (Or.inl c3)] at hc hfl
        rw [if_pos (Or.inr (Or.inl c3))] at hf ⊢
        obtain ⟨h0, h1, ⟨z', h2, h3⟩, _⟩ := h
        exact ihA 0 lo z z' c (fl + 1) a i (by omega) h2 (by omega) (by omega) (by omega) hf hw'.1 (by omega)
      rw [if_neg c3] at h hw'
      by_cases c4 : k = 4
      · rw [if_pos c4] at h hw'
        rw [if_pos (Or.inr (Or.inl c4))] at hc hfl
        rw [if_pos (Or.inr (Or.inr (Or.inl c4)))] at hf ⊢
        obtain ⟨h0, h1, ⟨z', h2, h3⟩, _⟩ := h
        obtain ⟨w1, cc, w2, w3⟩ := hw'
        have wl := Wf_le2 w2
        exact ihA 0 lo z z' c (fl + 1) a i (by omega) h2 (by omega) (by omega) (by omega) hf w1 (by omega)
      rw [if_neg c4] at h hw'
      by_cases c6 : k = 6
      · rw [if_pos c6] at h
        rw [if_neg (by omega), if_pos c6] at hw'
        rw [if_neg (by omega)]
        obtain ⟨w1, w2, cc, w3, w4⟩ := hw'
        have wl := Wf_le2 w3
        exact leaf _ h.2.2.1 (by decide) h.2.2.2.1 (by omega) (by omega)
      rw [if_neg c6] at h
      by_cases c7 : k = 7
      · rw [if_pos c7] at h
        rw [if_neg (by omega), if_neg c6, if_pos c7] at hw'
        rw [if_neg (by omega)]
        obtain ⟨w1, w2, cc, w3, w4⟩ := hw'
        have wl : i ≤ cc := by
          split at w3
          · have := Wf_le2 w3; omega
          · have := Wf_le2 w3; omega
        exact leaf _ h.2.2.1 (by decide) h.2.2.2.1 (by omega) (by omega)
      rw [if_neg c7] at h
      by_cases c8 : k = 8
      · rw [if_pos c8] at h
        rw [if_neg (by omega), if_neg c6, if_neg c7, if_pos c8] at hw'
        rw [if_neg (by omega)]
        rw [if_neg (by omega), if_pos (Or.inr c8)] at hf
        obtain ⟨w1, w2⟩ := hw'
        have wl : i ≤ b := by
          split at w2
          · obtain ⟨cc, w3, w4⟩ := w2
            have := Wf_le2 w3; omega
          · split at w2
            · obtain ⟨cc, dd, w3, w4, w5⟩ := w2
              have := Wf_le2 w3
              have := Wf_le2 w4
              omega
            · obtain ⟨cc, w3, w4⟩ := w2
              have := Wf_le2 w3; omega
        refine leaf _ h.2.2.1 (fun w => hf ?_) h.2.2.2.1 (by omega) (by omega)
        have := (hX.2 i).2
        exact nI_inj (b := 42) (by omega) (by omega) w
      rw [if_neg c8] at h
      by_cases c9 : k = 9
      · rw [if_pos c9] at h
        rw [if_neg (by omega), if_neg c6, if_neg c7, if_neg c8, if_pos c9] at hw'
        rw [if_neg (by omega)]
        have wl := Wf_le2 hw'.2
        exact leaf _ h.2.2.1 (by decide) h.2.2.2.1 (by omega) (by omega)
      rw [if_neg c9] at h
      exact h.elim
    rw [RcG_n] at h
    unfold RcN at h
    rw [if_neg (by omega)] at h
    by_cases m1 : mo = 1
    · rw [if_pos m1] at h
      by_cases c5 : k = 5
      · rw [if_pos c5] at h
        rw [if_neg (by omega), if_neg (by omega), if_neg (by omega), if_neg (by omega), if_pos c5] at hw'
        rw [if_neg (by omega), if_pos (by omega)] at hc hfl
        rw [if_pos (by omega)] at hf ⊢
        obtain ⟨h0, h1, ⟨y', h2, h3⟩, _⟩ := h
        have wl := Wf_le2 hw'.2
        exact ihA 1 lo z y' c (fl + 1) a i (by omega) h2 (by omega) (by omega) (by omega) hf hw'.1 (by omega)
      · rw [if_neg c5] at h
        obtain ⟨_, z0, h1, _⟩ := h
        exact r0 z0 h1
    · rw [if_neg m1] at h
      exact r0 z h
/-- beginOf: the place of the first token that isn't a parenthesis -/
theorem c_begin {tr : Tr} {mo a b : Nat} (hX : XO X) (hnf : 100 ≤ nf) (hT : TkC X T) (hm : mo ≤ 1) (h : RcG X T tr mo lo hi z) (hhi : hi ≤ 4008) (hp : pcT tr ≤ 20) (hf : fsL X tr) (hw : Wf X tr false a b) (hb : b ≤ xn X) (hd : 2 ≤ d) : PP nf d 33 T [nI lo] [] = some (nI (xP X (bgT tr)), 0, T) := by
  obtain ⟨d, rfl⟩ : ∃ g, d = g + 2 := ⟨d - 2, by omega⟩
  rw [e_Source_beginOf _ (d + 1)]
  unfold rb_Source_beginOf
  exact c_bgl hX hT tr mo lo hi z 0 nf a b hm h hhi (by omega) (by omega) hf hw hb
end CBG
