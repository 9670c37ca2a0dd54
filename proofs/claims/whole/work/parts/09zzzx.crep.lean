/-! how the class holds a tree: TERMS hang together by next (13) with their operators (15), what follows a PRIMARY by tail (18) and next, arguments by peer (14) -/
abbrev RcF : Type := Nat → Nat → Nat → Nat → Prop
def fnT (T : gSt) (lo z : Nat) : Prop := if z = 0 then T.1 18 lo = 0 else T.1 13 z = 0
def lkT (T : gSt) (lo z' z : Nat) : Prop := if z' = 0 then T.1 18 lo = nI z else T.1 13 z' = nI z
def cRX (T : gSt) (R : RcF) (lo hi : Nat) : Prop := ∃ y, R 1 lo hi y ∧ T.1 13 y = 0
def cRT (T : gSt) (R : RcF) (lo hi : Nat) : Prop := ∃ z, R 0 lo hi z ∧ fnT T lo z
/-- a TERM; z: the last of what follows its PRIMARY -/
def Rc0 (X : Lx) (T : gSt) (Ra Rb : RcF) (za : Bool) (k i e lo hi z : Nat) : Prop :=
  if k = 1 then hi = lo + 1 ∧ z = 0 ∧ T.1 11 lo = nI (xK X i) ∧ T.1 12 lo = nI i
  else if k = 2 then lo < hi ∧ z = 0 ∧ T.1 11 lo = 42 ∧ T.1 12 lo = nI i ∧ T.1 17 lo = nI (lo + 1) ∧ cRX T Ra (lo + 1) hi
  else if k = 3 then lo < z ∧ hi = z + 1 ∧ (∃ z', Ra 0 lo z z' ∧ lkT T lo z' z) ∧ T.1 11 z = nI (xK X i) ∧ T.1 12 z = nI i
  else if k = 4 then lo < z ∧ z < hi ∧ (∃ z', Ra 0 lo z z' ∧ lkT T lo z' z) ∧ T.1 11 z = 44 ∧ T.1 12 z = nI i ∧ T.1 17 z = nI (z + 1) ∧ cRX T Rb (z + 1) hi
  else if k = 6 then lo < hi ∧ z = 0 ∧ T.1 11 lo = 63 ∧ T.1 12 lo = nI i ∧ T.1 16 lo = nI e ∧ T.1 17 lo = (if za = true then 0 else nI (lo + 1)) ∧ Ra 2 (lo + 1) hi 0
  else if k = 7 then lo < hi ∧ z = 0 ∧ T.1 11 lo = 28 ∧ T.1 12 lo = nI i ∧ T.1 16 lo = nI e ∧ (if xK X (i + 3 + e) = 49 then T.1 17 lo = nI (lo + 1) ∧ T.1 14 (lo + 1) = 0 ∧ cRX T Ra (lo + 1) hi else T.1 17 lo = (if za = true then 0 else nI (lo + 1)) ∧ Ra 2 (lo + 1) hi 0)
  else if k = 8 then lo < hi ∧ z = 0 ∧ T.1 11 lo = nI (xK X i) ∧ T.1 12 lo = nI i ∧ T.1 17 lo = nI (lo + 1) ∧ (if xK X i = 30 then ∃ m, lo + 1 < m ∧ m < hi ∧ cRX T Ra (lo + 1) m ∧ T.1 14 (lo + 1) = nI m ∧ cRX T Rb m hi else cRX T Ra (lo + 1) hi)
  else if k = 9 then lo < hi ∧ z = 0 ∧ T.1 11 lo = 58 ∧ T.1 12 lo = nI i ∧ T.1 17 lo = nI (lo + 1) ∧ T.1 13 (lo + 1) = 0 ∧ cRT T Ra (lo + 1) hi
  else False
/-- modes: 0 a TERM, 1 an EXPR (z: its last TERM), 2 arguments -/
def RcN (X : Lx) (T : gSt) (Ra Rb : RcF) (za zb : Bool) (k i e : Nat) (mo lo hi z : Nat) : Prop :=
  if mo = 2 then k = 10 ∧ z = 0 ∧ ∃ m, lo < m ∧ m ≤ hi ∧ cRX T Ra lo m ∧ T.1 14 lo = (if zb = true then 0 else nI m) ∧ Rb 2 m hi 0
  else if mo = 1 then (if k = 5 then lo < z ∧ z < hi ∧ (∃ y', Ra 1 lo z y' ∧ T.1 13 y' = nI z) ∧ T.1 15 z = nI e ∧ cRT T Rb z hi else z = lo ∧ ∃ z0, Rc0 X T Ra Rb za k i e lo hi z0 ∧ fnT T lo z0)
  else Rc0 X T Ra Rb za k i e lo hi z
def RcG (X : Lx) (T : gSt) : Tr → RcF
  | .add (.add (.var k) (.add (.var i) (.var e))) (.add a b) => RcN X T (RcG X T a) (RcG X T b) (isZ a) (isZ b) k i e
  | .num _ => fun mo lo hi z => mo = 2 ∧ lo = hi ∧ z = 0
  | _ => fun _ _ _ _ => False
/-- the fields that a parent still sets -/
def exC0 (lo z g j : Nat) : Prop := ((g = 13 ∨ g = 14 ∨ g = 15) ∧ j = lo) ∨ (z = 0 ∧ g = 18 ∧ j = lo) ∨ (z ≠ 0 ∧ g = 13 ∧ j = z)
def exC1 (lo z g j : Nat) : Prop := (g = 13 ∧ j = z) ∨ ((g = 14 ∨ g = 15) ∧ j = lo)
def exM (mo lo z g j : Nat) : Prop := (mo = 0 ∧ exC0 lo z g j) ∨ (mo = 1 ∧ exC1 lo z g j)
abbrev AgN (T T' : gSt) (ex : Nat → Nat → Prop) (lo hi : Nat) : Prop := ∀ g j, 11 ≤ g → g ≤ 18 → lo ≤ j → j < hi → ¬ ex g j → T'.1 g j = T.1 g j
section CRP
variable {T T' : gSt} {X : Lx} {k i e lo hi z p mo : Nat} {ta tb t : Tr}
theorem RcG_n : RcG X T (tD k i e ta tb) = RcN X T (RcG X T ta) (RcG X T tb) (isZ ta) (isZ tb) k i e := rfl
theorem Rc_le (t : Tr) : ∀ (mo lo hi z : Nat), mo ≤ 2 → RcG X T t mo lo hi z → (mo = 0 → lo < hi ∧ (z = 0 ∨ lo < z ∧ z < hi)) ∧ (mo = 1 → lo ≤ z ∧ z < hi) ∧ (mo = 2 → lo ≤ hi) := by
  induction t using Tr_ind with
  | hz t hz =>
    intro mo lo hi z hm h
    unfold RcG at h
    split at h
    · exact absurd rfl (hz _ _ _ _ _)
    · obtain ⟨h1, h2, h3⟩ := h
      omega
    · exact h.elim
  | h k i e ta tb ihA ihB =>
    intro mo lo hi z hm h
    rw [RcG_n] at h
    unfold RcN at h
    have z0 : ∀ z, Rc0 X T (RcG X T ta) (RcG X T tb) (isZ ta) k i e lo hi z → lo < hi ∧ (z = 0 ∨ lo < z ∧ z < hi) := by
      intro z h
      unfold Rc0 at h
      repeat' split at h
      all_goals first | exact h.elim | omega
    by_cases m2 : mo = 2
    · rw [if_pos m2] at h
      obtain ⟨h1, h2, m, h3, h4, h5, h6, h7⟩ := h
      have := (ihB 2 _ _ _ (by omega) h7).2.2 rfl
      omega
    rw [if_neg m2] at h
    by_cases m1 : mo = 1
    · rw [if_pos m1] at h
      by_cases k5 : k = 5
      · rw [if_pos k5] at h
        omega
      · rw [if_neg k5] at h
        obtain ⟨h1, z1, h2, h3⟩ := h
        have := z0 _ h2
        omega
    rw [if_neg m1] at h
    have := z0 _ h
    exact ⟨fun _ => this, fun q => absurd q m1, fun q => absurd q m2⟩
theorem RcG.ag (t : Tr) : ∀ (mo lo hi z : Nat), mo ≤ 2 → RcG X T t mo lo hi z → AgN T T' (exM mo lo z) lo hi → RcG X T' t mo lo hi z := by
  induction t using Tr_ind with
  | hz t hz =>
    intro mo lo hi z hm h _
    unfold RcG at h ⊢
    split at h
    · exact absurd rfl (hz _ _ _ _ _)
    · exact h
    · exact h.elim
  | h k i e ta tb ihA ihB =>
    intro mo lo hi z hm h hA
    -- a whole EXPR, a whole TERM
    have xA : ∀ lo' hi', lo ≤ lo' → hi' ≤ hi → cRX T (RcG X T ta) lo' hi' → AgN T T' (fun g j => (g = 14 ∨ g = 15) ∧ j = lo') lo' hi' → cRX T' (RcG X T' ta) lo' hi' := by
      intro lo' hi' h1 h2 ⟨y, y1, y2⟩ q
      have := (Rc_le _ _ _ _ _ (by omega) y1).2.1 rfl
      refine ⟨y, ihA 1 _ _ _ (by omega) y1 (fun g j a b c d w => q g j a b c d (fun w2 => w (Or.inr ⟨rfl, Or.inr w2⟩))), ?_⟩
      rw [q 13 y (by omega) (by omega) (by omega) (by omega) (fun w => by omega)]
      exact y2
    have xB : ∀ lo' hi', lo ≤ lo' → hi' ≤ hi → cRX T (RcG X T tb) lo' hi' → AgN T T' (fun g j => (g = 14 ∨ g = 15) ∧ j = lo') lo' hi' → cRX T' (RcG X T' tb) lo' hi' := by
      intro lo' hi' h1 h2 ⟨y, y1, y2⟩ q
      have := (Rc_le _ _ _ _ _ (by omega) y1).2.1 rfl
      refine ⟨y, ihB 1 _ _ _ (by omega) y1 (fun g j a b c d w => q g j a b c d (fun w2 => w (Or.inr ⟨rfl, Or.inr w2⟩))), ?_⟩
      rw [q 13 y (by omega) (by omega) (by omega) (by omega) (fun w => by omega)]
      exact y2
    have r0 : ∀ z, AgN T T' (exC0 lo z) lo hi → Rc0 X T (RcG X T ta) (RcG X T tb) (isZ ta) k i e lo hi z → Rc0 X T' (RcG X T' ta) (RcG X T' tb) (isZ ta) k i e lo hi z := by
      intro z q h
      have al : ∀ lo' hi', lo < lo' → hi' ≤ hi → z = 0 → AgN T T' (fun g j => (g = 14 ∨ g = 15) ∧ j = lo') lo' hi' := fun lo' hi' a b c g j d e f l _ => q g j d e (by omega) (by omega) (by unfold exC0; omega)
      have l2 : ∀ lo' hi', lo < lo' → hi' ≤ hi → z = 0 → RcG X T ta 2 lo' hi' 0 → RcG X T' ta 2 lo' hi' 0 := fun lo' hi' a b c w => ihA 2 _ _ _ (by omega) w (fun g j d e f l _ => q g j d e (by omega) (by omega) (by unfold exC0; omega))
      unfold Rc0 at h ⊢
      by_cases c : k = 1
      · rw [if_pos c] at h ⊢
        rw [q 11 lo (by omega) (by omega) (by omega) (by omega) (by unfold exC0; omega), q 12 lo (by omega) (by omega) (by omega) (by omega) (by unfold exC0; omega)]
        exact h
      rw [if_neg c] at h ⊢; clear c
      by_cases c : k = 2
      · rw [if_pos c] at h ⊢
        obtain ⟨h0, h1, h2, h3, h4, h5⟩ := h
        rw [q 11 lo (by omega) (by omega) (by omega) (by omega) (by unfold exC0; omega), q 12 lo (by omega) (by omega) (by omega) (by omega) (by unfold exC0; omega), q 17 lo (by omega) (by omega) (by omega) (by omega) (by unfold exC0; omega)]
        exact ⟨h0, h1, h2, h3, h4, xA _ _ (by omega) (by omega) h5 (al _ _ (by omega) (by omega) h1)⟩
      rw [if_neg c] at h ⊢; clear c
      have sub : ∀ z', lo < z → z < hi → RcG X T ta 0 lo z z' → lkT T lo z' z → RcG X T' ta 0 lo z z' ∧ lkT T' lo z' z := by
        intro z' a b w l
        have le := (Rc_le _ _ _ _ _ (by omega) w).1 rfl
        refine ⟨ihA 0 _ _ _ (by omega) w (fun g j d e f l2 n => q g j d e (by omega) (by omega) (fun w2 => n (Or.inl ⟨rfl, ?_⟩))), ?_⟩
        · unfold exC0 at w2 ⊢
          omega
        · unfold lkT at l ⊢
          by_cases c : z' = 0
          · rw [if_pos c] at l ⊢
            rw [q 18 lo (by omega) (by omega) (by omega) (by omega) (by unfold exC0; omega)]
            exact l
          · rw [if_neg c] at l ⊢
            rw [q 13 z' (by omega) (by omega) (by omega) (by omega) (by unfold exC0; omega)]
            exact l
      by_cases c : k = 3
      · rw [if_pos c] at h ⊢
        obtain ⟨h0, h1, ⟨z', h2, h3⟩, h4, h5⟩ := h
        have := sub z' h0 (by omega) h2 h3
        rw [q 11 z (by omega) (by omega) (by omega) (by omega) (by unfold exC0; omega), q 12 z (by omega) (by omega) (by omega) (by omega) (by unfold exC0; omega)]
        exact ⟨h0, h1, ⟨z', this⟩, h4, h5⟩
      rw [if_neg c] at h ⊢; clear c
      by_cases c : k = 4
      · rw [if_pos c] at h ⊢
        obtain ⟨h0, h1, ⟨z', h2, h3⟩, h4, h5, h6, h7⟩ := h
        have := sub z' h0 (by omega) h2 h3
        rw [q 11 z (by omega) (by omega) (by omega) (by omega) (by unfold exC0; omega), q 12 z (by omega) (by omega) (by omega) (by omega) (by unfold exC0; omega), q 17 z (by omega) (by omega) (by omega) (by omega) (by unfold exC0; omega)]
        exact ⟨h0, h1, ⟨z', this⟩, h4, h5, h6, xB _ _ (by omega) (by omega) h7 (fun g j d e f l _ => q g j d e (by omega) (by omega) (by unfold exC0; omega))⟩
      rw [if_neg c] at h ⊢; clear c
      by_cases c : k = 6
      · rw [if_pos c] at h ⊢
        obtain ⟨h0, h1, h2, h3, h4, h5, h6⟩ := h
        rw [q 11 lo (by omega) (by omega) (by omega) (by omega) (by unfold exC0; omega), q 12 lo (by omega) (by omega) (by omega) (by omega) (by unfold exC0; omega), q 16 lo (by omega) (by omega) (by omega) (by omega) (by unfold exC0; omega), q 17 lo (by omega) (by omega) (by omega) (by omega) (by unfold exC0; omega)]
        exact ⟨h0, h1, h2, h3, h4, h5, l2 _ _ (by omega) (by omega) h1 h6⟩
      rw [if_neg c] at h ⊢; clear c
      by_cases c : k = 7
      · rw [if_pos c] at h ⊢
        obtain ⟨h0, h1, h2, h3, h4, h5⟩ := h
        rw [q 11 lo (by omega) (by omega) (by omega) (by omega) (by unfold exC0; omega), q 12 lo (by omega) (by omega) (by omega) (by omega) (by unfold exC0; omega), q 16 lo (by omega) (by omega) (by omega) (by omega) (by unfold exC0; omega), q 17 lo (by omega) (by omega) (by omega) (by omega) (by unfold exC0; omega)]
        refine ⟨h0, h1, h2, h3, h4, ?_⟩
        by_cases c2 : xK X (i + 3 + e) = 49
        · rw [if_pos c2] at h5 ⊢
          have le7 : lo + 1 < hi := by
            obtain ⟨y7, y71, _⟩ := h5.2.2
            have := (Rc_le _ _ _ _ _ (by omega) y71).2.1 rfl
            omega
          exact ⟨h5.1, by rw [q 14 (lo + 1) (by omega) (by omega) (by omega) (by omega) (by unfold exC0; omega)]; exact h5.2.1, xA _ _ (by omega) (by omega) h5.2.2 (al _ _ (by omega) (by omega) h1)⟩
        · rw [if_neg c2] at h5 ⊢
          exact ⟨h5.1, l2 _ _ (by omega) (by omega) h1 h5.2⟩
      rw [if_neg c] at h ⊢; clear c
      by_cases c : k = 8
      · rw [if_pos c] at h ⊢
        obtain ⟨h0, h1, h2, h3, h4, h5⟩ := h
        rw [q 11 lo (by omega) (by omega) (by omega) (by omega) (by unfold exC0; omega), q 12 lo (by omega) (by omega) (by omega) (by omega) (by unfold exC0; omega), q 17 lo (by omega) (by omega) (by omega) (by omega) (by unfold exC0; omega)]
        refine ⟨h0, h1, h2, h3, h4, ?_⟩
        by_cases c2 : xK X i = 30
        · rw [if_pos c2] at h5 ⊢
          obtain ⟨m, a1, a2, a3, a4, a5⟩ := h5
          refine ⟨m, a1, a2, xA _ _ (by omega) (by omega) a3 (al _ _ (by omega) (by omega) h1), ?_, xB _ _ (by omega) (by omega) a5 (al _ _ (by omega) (by omega) h1)⟩
          rw [q 14 (lo + 1) (by omega) (by omega) (by omega) (by omega) (by unfold exC0; omega)]
          exact a4
        · rw [if_neg c2] at h5 ⊢
          exact xA _ _ (by omega) (by omega) h5 (al _ _ (by omega) (by omega) h1)
      rw [if_neg c] at h ⊢; clear c
      by_cases c : k = 9
      · rw [if_pos c] at h ⊢
        obtain ⟨h0, h1, h2, h3, h4, h45, z1, h5, h6⟩ := h
        rw [q 11 lo (by omega) (by omega) (by omega) (by omega) (by unfold exC0; omega), q 12 lo (by omega) (by omega) (by omega) (by omega) (by unfold exC0; omega), q 17 lo (by omega) (by omega) (by omega) (by omega) (by unfold exC0; omega)]
        have le := (Rc_le _ _ _ _ _ (by omega) h5).1 rfl
        refine ⟨h0, h1, h2, h3, h4, by rw [q 13 (lo + 1) (by omega) (by omega) (by omega) (by omega) (by unfold exC0; omega)]; exact h45, z1, ihA 0 _ _ _ (by omega) h5 (fun g j d e f l _ => q g j d e (by omega) (by omega) (by unfold exC0; omega)), ?_⟩
        unfold fnT at h6 ⊢
        rw [q 18 (lo + 1) (by omega) (by omega) (by omega) (by omega) (by unfold exC0; omega)]
        by_cases c2 : z1 = 0
        · rw [if_pos c2] at h6 ⊢; exact h6
        · rw [if_neg c2] at h6 ⊢
          rw [q 13 z1 (by omega) (by omega) (by omega) (by omega) (by unfold exC0; omega)]
          exact h6
      rw [if_neg c] at h
      exact h.elim
    rw [RcG_n] at h ⊢
    unfold RcN at h ⊢
    by_cases m2 : mo = 2
    · rw [if_pos m2] at h ⊢
      obtain ⟨h1, h2, m, h3, h4, h5, h6, h7⟩ := h
      refine ⟨h1, h2, m, h3, h4, xA _ _ (by omega) (by omega) h5 (fun g j a b c d _ => hA g j a b (by omega) (by omega) (by unfold exM; omega)), ?_, ihB 2 _ _ _ (by omega) h7 (fun g j a b c d _ => hA g j a b (by omega) (by omega) (by unfold exM; omega))⟩
      rw [hA 14 lo (by omega) (by omega) (by omega) (by omega) (by unfold exM; omega)]
      exact h6
    rw [if_neg m2] at h ⊢
    by_cases m1 : mo = 1
    · rw [if_pos m1] at h ⊢
      have nx : ∀ g j, exM mo lo z g j → exC1 lo z g j := fun g j w => by
        rcases w with w | w
        · exact absurd w.1 (by omega)
        · exact w.2
      by_cases k5 : k = 5
      · rw [if_pos k5] at h ⊢
        obtain ⟨h1, h2, ⟨y', h3, h4⟩, h5, z0, h6, h7⟩ := h
        have le := (Rc_le _ _ _ _ _ (by omega) h3).2.1 rfl
        have le2 := (Rc_le _ _ _ _ _ (by omega) h6).1 rfl
        refine ⟨h1, h2, ⟨y', ihA 1 _ _ _ (by omega) h3 (fun g j a b c d n => hA g j a b (by omega) (by omega) (fun w => n (Or.inr ⟨rfl, ?_⟩))), ?_⟩, ?_, z0, ihB 0 _ _ _ (by omega) h6 (fun g j a b c d n => hA g j a b (by omega) (by omega) (fun w => n (Or.inl ⟨rfl, ?_⟩))), ?_⟩
        · have := nx _ _ w
          unfold exC1 at this ⊢
          omega
        · rw [hA 13 y' (by omega) (by omega) (by omega) (by omega) (by unfold exM exC0 exC1; omega)]
          exact h4
        · rw [hA 15 z (by omega) (by omega) (by omega) (by omega) (by unfold exM exC0 exC1; omega)]
          exact h5
        · have := nx _ _ w
          unfold exC1 at this
          unfold exC0
          omega
        · unfold fnT at h7 ⊢
          rw [hA 18 z (by omega) (by omega) (by omega) (by omega) (by unfold exM exC0 exC1; omega)]
          by_cases c2 : z0 = 0
          · rw [if_pos c2] at h7 ⊢; exact h7
          · rw [if_neg c2] at h7 ⊢
            rw [hA 13 z0 (by omega) (by omega) (by omega) (by omega) (by unfold exM exC0 exC1; omega)]
            exact h7
      · rw [if_neg k5] at h ⊢
        obtain ⟨h1, z0, h2, h3⟩ := h
        have le : lo < hi ∧ (z0 = 0 ∨ lo < z0 ∧ z0 < hi) := by
          have : RcG X T (tD k i e ta tb) 0 lo hi z0 := h2
          exact (Rc_le _ _ _ _ _ (by omega) this).1 rfl
        refine ⟨h1, z0, r0 z0 (fun g j a b c d n => hA g j a b c d (fun w => n ?_)) h2, ?_⟩
        · have := nx _ _ w
          unfold exC1 at this
          unfold exC0
          omega
        · unfold fnT at h3 ⊢
          rw [hA 18 lo (by omega) (by omega) (by omega) (by omega) (by unfold exM exC0 exC1; omega)]
          by_cases c2 : z0 = 0
          · rw [if_pos c2] at h3 ⊢; exact h3
          · rw [if_neg c2] at h3 ⊢
            rw [hA 13 z0 (by omega) (by omega) (by omega) (by omega) (by unfold exM exC0 exC1; omega)]
            exact h3
    rw [if_neg m1] at h ⊢
    refine r0 z (fun g j a b c d n => hA g j a b c d (fun w => n ?_)) h
    rcases w with w | w
    · exact w.2
    · exact absurd w.1 (by omega)
end CRP
