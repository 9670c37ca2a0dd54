/-! how the class holds STEPS: a step's node comes first, BLOCKS are chains by next (13) -/
abbrev RsF : Type := Nat → Nat → Nat → Nat → Prop
/-- whether a BLOCK has no step (or isn't there) -/
def emB : Tr → Bool
  | .add (.add (.var _) (.add (.var _) (.var _))) (.add a _) => isZ a
  | _ => true
def vB (T : gSt) (g q : Nat) (em : Bool) (c : Nat) : Prop := T.1 g q = (if em = true then 0 else nI c)
/-- modes: 0 a step, 1 a list, 2 a BLOCK, 3 the BLOCKS of an if (p: its node) -/
def RsC (X : Lx) (T : gSt) (Ra Rb : RcF) (Sa Sb : RsF) (za zb ea eb : Bool) (k i : Nat) (mo p lo hi : Nat) : Prop :=
  if mo = 3 then k = 12 ∧ ∃ c, lo ≤ c ∧ c ≤ hi ∧ vB T 17 p ea lo ∧ Sa 2 0 lo c ∧ vB T 18 p eb c ∧ Sb 2 0 c hi
  else if mo = 2 then k = 31 ∧ Sa 1 0 lo hi
  else if mo = 1 then k = 11 ∧ ∃ c, lo < c ∧ c ≤ hi ∧ Sa 0 0 lo c ∧ T.1 13 lo = (if zb = true then 0 else nI c) ∧ Sb 1 0 c hi
  else lo < hi ∧ T.1 12 lo = nI i ∧ (
    if k = 20 then T.1 11 lo = 15 ∧ (if za = true then hi = lo + 1 ∧ T.1 17 lo = 0 else T.1 17 lo = nI (lo + 1) ∧ cRX T Ra (lo + 1) hi)
    else if k = 21 then T.1 11 lo = 16 ∧ T.1 16 lo = nI (lo + 1) ∧ ∃ c, lo + 1 < c ∧ c ≤ hi ∧ cRX T Ra (lo + 1) c ∧ Sb 3 lo c hi
    else if k = 22 then (T.1 11 lo = 18 ∧ T.1 18 lo = 0) ∧ T.1 16 lo = nI (lo + 1) ∧ ∃ c, lo + 1 < c ∧ c ≤ hi ∧ cRX T Ra (lo + 1) c ∧ vB T 17 lo eb c ∧ Sb 2 0 c hi
    else if k = 23 then T.1 11 lo = 19 ∧ (if za = true then hi = lo + 1 ∧ T.1 17 lo = 0 else T.1 17 lo = nI (lo + 1) ∧ cRX T Ra (lo + 1) hi)
    else if k = 24 ∨ k = 25 then T.1 11 lo = (if k = 24 then 20 else 25) ∧ T.1 17 lo = nI (lo + 1) ∧ cRX T Ra (lo + 1) hi
    else if k = 26 then (T.1 11 lo = 21 ∧ T.1 18 lo = 0) ∧ vB T 17 lo ea (lo + 1) ∧ Sa 2 0 (lo + 1) hi
    else if k = 27 then T.1 11 lo = 22 ∧ hi = lo + 1
    else if k = 28 then T.1 11 lo = 23 ∧ ∃ c, lo < c ∧ c ≤ hi ∧ vB T 17 lo ea (lo + 1) ∧ Sa 2 0 (lo + 1) c ∧ vB T 18 lo eb c ∧ Sb 2 0 c hi
    else if k = 29 then T.1 11 lo = 50 ∧ T.1 16 lo = nI (lo + 1) ∧ ∃ c, lo + 1 < c ∧ c < hi ∧ cRX T Ra (lo + 1) c ∧ T.1 17 lo = nI c ∧ cRX T Rb c hi
    else if k = 30 then T.1 11 lo = 64 ∧ T.1 17 lo = nI (lo + 1) ∧ cRX T Ra (lo + 1) hi
    else False)
def RcS (X : Lx) (T : gSt) : Tr → RsF
  | .add (.add (.var k) (.add (.var i) (.var _))) (.add a b) => RsC X T (RcG X T a) (RcG X T b) (RcS X T a) (RcS X T b) (isZ a) (isZ b) (emB a) (emB b) k i
  | .num _ => fun mo _ lo hi => (mo = 1 ∨ mo = 2) ∧ lo = hi
  | _ => fun _ _ _ _ => False
section CSR
variable {T T' : gSt} {X : Lx} {k i e lo hi z p mo q c : Nat} {ta tb t : Tr}
theorem RcS_n : RcS X T (tD k i e ta tb) = RsC X T (RcG X T ta) (RcG X T tb) (RcS X T ta) (RcS X T tb) (isZ ta) (isZ tb) (emB ta) (emB tb) k i := rfl
theorem Rs_le (t : Tr) : ∀ (mo p lo hi : Nat), mo ≤ 3 → RcS X T t mo p lo hi → lo ≤ hi ∧ (mo = 0 → lo < hi) := by
  induction t using Tr_ind with
  | hz t hz =>
    intro mo p lo hi hm h
    unfold RcS at h
    split at h
    · exact absurd rfl (hz _ _ _ _ _)
    · omega
    · exact h.elim
  | h k i e ta tb ihA ihB =>
    intro mo p lo hi hm h
    rw [RcS_n] at h
    unfold RsC at h
    by_cases m3 : mo = 3
    · rw [if_pos m3] at h
      obtain ⟨h1, c, h2, h3, _⟩ := h
      omega
    rw [if_neg m3] at h
    by_cases m2 : mo = 2
    · rw [if_pos m2] at h
      have := ihA 1 _ _ _ (by omega) h.2
      omega
    rw [if_neg m2] at h
    by_cases m1 : mo = 1
    · rw [if_pos m1] at h
      obtain ⟨h1, c, h2, h3, _⟩ := h
      omega
    rw [if_neg m1] at h
    have := h.1
    omega
abbrev AgC (T T' : gSt) (mo p lo hi : Nat) : Prop := (∀ g j, 11 ≤ g → g ≤ 18 → lo ≤ j → j < hi → ¬ (mo = 0 ∧ g = 13 ∧ j = lo) → T'.1 g j = T.1 g j) ∧ (mo = 3 → T'.1 17 p = T.1 17 p ∧ T'.1 18 p = T.1 18 p)
theorem RcS.ag (t : Tr) : ∀ (mo p lo hi : Nat), mo ≤ 3 → RcS X T t mo p lo hi → AgC T T' mo p lo hi → RcS X T' t mo p lo hi := by
  induction t using Tr_ind with
  | hz t hz =>
    intro mo p lo hi hm h _
    unfold RcS at h ⊢
    split at h
    · exact absurd rfl (hz _ _ _ _ _)
    · exact h
    · exact h.elim
  | h k i e ta tb ihA ihB =>
    intro mo p lo hi hm h hA
    rw [RcS_n] at h ⊢
    unfold RsC at h ⊢
    have iA : ∀ mo' p' lo' hi', mo' ≤ 2 → (mo ≠ 0 ∧ lo ≤ lo' ∨ lo < lo') → hi' ≤ hi → RcS X T ta mo' p' lo' hi' → RcS X T' ta mo' p' lo' hi' := fun mo' p' lo' hi' a b c w => ihA mo' p' lo' hi' (by omega) w ⟨fun g j d e f l n => hA.1 g j d e (by omega) (by omega) (fun w => by omega), fun w => absurd w (by omega)⟩
    have iB : ∀ mo' p' lo' hi', mo' ≤ 2 → (mo ≠ 0 ∧ lo ≤ lo' ∨ lo < lo') → hi' ≤ hi → RcS X T tb mo' p' lo' hi' → RcS X T' tb mo' p' lo' hi' := fun mo' p' lo' hi' a b c w => ihB mo' p' lo' hi' (by omega) w ⟨fun g j d e f l n => hA.1 g j d e (by omega) (by omega) (fun w => by omega), fun w => absurd w (by omega)⟩
    have xA : ∀ lo' hi', lo < lo' → hi' ≤ hi → cRX T (RcG X T ta) lo' hi' → cRX T' (RcG X T' ta) lo' hi' := fun lo' hi' a b w => w.ag (fun g j d e f l _ => hA.1 g j d e (by omega) (by omega) (fun w => by omega))
    have xB : ∀ lo' hi', lo < lo' → hi' ≤ hi → cRX T (RcG X T tb) lo' hi' → cRX T' (RcG X T' tb) lo' hi' := fun lo' hi' a b w => w.ag (fun g j d e f l _ => hA.1 g j d e (by omega) (by omega) (fun w => by omega))
    by_cases m3 : mo = 3
    · rw [if_pos m3] at h ⊢
      obtain ⟨h1, c, h2, h3, h4, h5, h6, h7⟩ := h
      unfold vB at h4 h6 ⊢
      rw [(hA.2 m3).1, (hA.2 m3).2]
      exact ⟨h1, c, h2, h3, h4, iA 2 _ _ _ (by omega) (by omega) (by omega) h5, h6, iB 2 _ _ _ (by omega) (by omega) (by omega) h7⟩
    rw [if_neg m3] at h ⊢
    by_cases m2 : mo = 2
    · rw [if_pos m2] at h ⊢
      exact ⟨h.1, iA 1 _ _ _ (by omega) (by omega) (by omega) h.2⟩
    rw [if_neg m2] at h ⊢
    by_cases m1 : mo = 1
    · rw [if_pos m1] at h ⊢
      obtain ⟨h1, c, h2, h3, h4, h5, h6⟩ := h
      refine ⟨h1, c, h2, h3, iA 0 _ _ _ (by omega) (by omega) (by omega) h4, ?_, iB 1 _ _ _ (by omega) (by omega) (by omega) h6⟩
      rw [hA.1 13 lo (by omega) (by omega) (by omega) (by omega) (by omega)]
      exact h5
    rw [if_neg m1] at h ⊢
    obtain ⟨h1, h2, h3⟩ := h
    have o : ∀ g, 11 ≤ g → g ≤ 18 → g ≠ 13 → T'.1 g lo = T.1 g lo := fun g a b c => hA.1 g lo a b (by omega) (by omega) (by omega)
    refine ⟨h1, by rw [o 12 (by omega) (by omega) (by omega)]; exact h2, ?_⟩
    unfold vB at h3 ⊢
    rw [o 11 (by omega) (by omega) (by omega), o 16 (by omega) (by omega) (by omega), o 17 (by omega) (by omega) (by omega), o 18 (by omega) (by omega) (by omega)]
    have za : (if isZ ta = true then hi = lo + 1 ∧ T.1 17 lo = 0 else T.1 17 lo = nI (lo + 1) ∧ cRX T (RcG X T ta) (lo + 1) hi) → (if isZ ta = true then hi = lo + 1 ∧ T.1 17 lo = 0 else T.1 17 lo = nI (lo + 1) ∧ cRX T' (RcG X T' ta) (lo + 1) hi) := by
      intro w
      by_cases c0 : isZ ta = true
      · rw [if_pos c0] at w ⊢; exact w
      · rw [if_neg c0] at w ⊢
        exact ⟨w.1, xA _ _ (by omega) (by omega) w.2⟩
    by_cases c : k = 20
    · rw [if_pos c] at h3 ⊢
      exact ⟨h3.1, za h3.2⟩
    rw [if_neg c] at h3 ⊢; clear c
    by_cases c : k = 21
    · rw [if_pos c] at h3 ⊢
      obtain ⟨a1, a2, c, a3, a4, a5, a6⟩ := h3
      refine ⟨a1, a2, c, a3, a4, xA _ _ (by omega) (by omega) a5, ihB 3 _ _ _ (by omega) a6 ⟨fun g j d e f l n => hA.1 g j d e (by omega) (by omega) (fun w => by omega), fun _ => ⟨o 17 (by omega) (by omega) (by omega), o 18 (by omega) (by omega) (by omega)⟩⟩⟩
    rw [if_neg c] at h3 ⊢; clear c
    by_cases c : k = 22
    · rw [if_pos c] at h3 ⊢
      obtain ⟨a1, a2, c, a3, a4, a5, a6, a7⟩ := h3
      exact ⟨a1, a2, c, a3, a4, xA _ _ (by omega) (by omega) a5, a6, iB 2 _ _ _ (by omega) (by omega) (by omega) a7⟩
    rw [if_neg c] at h3 ⊢; clear c
    by_cases c : k = 23
    · rw [if_pos c] at h3 ⊢
      exact ⟨h3.1, za h3.2⟩
    rw [if_neg c] at h3 ⊢; clear c
    by_cases c : k = 24 ∨ k = 25
    · rw [if_pos c] at h3 ⊢
      exact ⟨h3.1, h3.2.1, xA _ _ (by omega) (by omega) h3.2.2⟩
    rw [if_neg c] at h3 ⊢; clear c
    by_cases c : k = 26
    · rw [if_pos c] at h3 ⊢
      exact ⟨h3.1, h3.2.1, iA 2 _ _ _ (by omega) (by omega) (by omega) h3.2.2⟩
    rw [if_neg c] at h3 ⊢; clear c
    by_cases c : k = 27
    · rw [if_pos c] at h3 ⊢
      exact h3
    rw [if_neg c] at h3 ⊢; clear c
    by_cases c : k = 28
    · rw [if_pos c] at h3 ⊢
      obtain ⟨a1, c, a2, a3, a4, a5, a6, a7⟩ := h3
      exact ⟨a1, c, a2, a3, a4, iA 2 _ _ _ (by omega) (by omega) (by omega) a5, a6, iB 2 _ _ _ (by omega) (by omega) (by omega) a7⟩
    rw [if_neg c] at h3 ⊢; clear c
    by_cases c : k = 29
    · rw [if_pos c] at h3 ⊢
      obtain ⟨a1, a2, c, a3, a4, a5, a6, a7⟩ := h3
      exact ⟨a1, a2, c, a3, a4, xA _ _ (by omega) (by omega) a5, a6, xB _ _ (by omega) (by omega) a7⟩
    rw [if_neg c] at h3 ⊢; clear c
    by_cases c : k = 30
    · rw [if_pos c] at h3 ⊢
      exact ⟨h3.1, h3.2.1, xA _ _ (by omega) (by omega) h3.2.2⟩
    rw [if_neg c] at h3
    exact h3.elim
end CSR
