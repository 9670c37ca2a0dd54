/-! names of a head that passed its check differ -/
def HnU (S : gSt) (it c m : Nat) : Prop := (∀ a, a < (S.1 15 it).toNatClampNeg → ¬ S.2 16 (3 * it + a) = 72 ∧ ∀ p, p < a → ¬ S.2 16 (3 * it + p) = S.2 16 (3 * it + a)) ∧ ∀ a b, a < m → b < m → S.2 21 (c + a) = S.2 21 (c + b) → a = b
section HNM
variable {S S' T : gSt} {X : Lx} {it c n w rt m a b j k q : Nat} {l : List Nat} {f : Int32}
theorem ff_lo {p : Nat → Bool} (hb : b < 100000) : ∀ (k i : Nat), i + k < 100000 → ff p i k = nI b → ∀ q, i ≤ q → q < b → ¬ p q = true := by
  intro k
  induction k with
  | zero => intro i _ h q _ _; exact absurd h.symm (nI_m1 (by omega))
  | succ k ih =>
    intro i hi h q q1 q2
    rw [ff] at h
    by_cases c : p i = true
    · rw [if_pos c] at h
      have := nI_inj (by omega) (by omega) h
      omega
    · rw [if_neg c] at h
      by_cases e : q = i
      · rw [e]; exact c
      · exact ih (i + 1) (by omega) h q (by omega) q2
theorem dp_0 : ∀ (k q : Nat) (f : Int32), dpR T it j k q f = 0 → f = 0 ∧ ∀ p, q ≤ p → p < q + k → ¬ T.2 16 (3 * it + p) = T.2 16 (3 * it + j) := by
  intro k
  induction k with
  | zero => intro q f h; exact ⟨h, fun p _ _ => by omega⟩
  | succ k ih =>
    intro q f h
    rw [dpR] at h
    obtain ⟨h1, h2⟩ := ih (q + 1) _ h
    by_cases c : f = 0
    · rw [if_pos c] at h1
      refine ⟨c, fun p p1 p2 => ?_⟩
      by_cases e : p = q
      · rw [e]
        intro w
        rw [if_pos w] at h1
        exact absurd h1 (by decide)
      · exact h2 p (by omega) (by omega)
    · rw [if_neg c] at h1
      exact absurd h1 (by decide)
theorem dr_nm : ∀ (k j : Nat) (T : gSt), (drL it k j T).1 7 0 = 0 → ∀ a, j ≤ a → a < j + k → ¬ T.2 16 (3 * it + a) = 72 ∧ ∀ p, p < a → ¬ T.2 16 (3 * it + p) = T.2 16 (3 * it + a) := by
  intro k
  induction k with
  | zero => intro j T _ a _ _; omega
  | succ k ih =>
    intro j T h a a1 a2
    have h0 : T.1 7 0 = 0 := (FH.dr (it := it) (k + 1) j T).ok h
    rw [drL, if_pos h0] at h
    have h1 : (drS T it j).1 7 0 = 0 := (FH.dr k (j + 1) _).ok h
    have e : drS T it j = T := by
      unfold drS at h1 ⊢
      by_cases c : dpR T it j j 0 (if T.2 16 (3 * it + j) = 72 then 1 else 0) = 0
      · rw [if_pos c]
      · rw [if_neg c] at h1
        exact absurd h1 (flT_bad (by decide))
    by_cases ea : a = j
    · subst ea
      have c : dpR T it a a 0 (if T.2 16 (3 * it + a) = 72 then 1 else 0) = 0 := by
        refine Decidable.byContradiction fun c => ?_
        unfold drS at h1
        rw [if_neg c] at h1
        exact absurd h1 (flT_bad (by decide))
      obtain ⟨c1, c2⟩ := dp_0 a 0 _ c
      refine ⟨fun w => ?_, fun p hp => c2 p (by omega) (by omega)⟩
      rw [if_pos w] at c1
      exact absurd c1 (by decide)
    · rw [e] at h
      exact ih (j + 1) T h a (by omega) (by omega)
theorem fd_nm : ∀ (k j : Nat) (T : gSt), (fdL X c l k j T).1 7 0 = 0 → ∀ a, j ≤ a → a < j + k → ff (isFi T c (xN X (l.getD a 0))) 0 l.length = nI a := by
  intro k
  induction k with
  | zero => intro j T _ a _ _; omega
  | succ k ih =>
    intro j T h a a1 a2
    have h0 : T.1 7 0 = 0 := (FH.fd (X := X) (c := c) (l := l) (k + 1) j T).ok h
    rw [fdL, if_pos h0] at h
    have h1 : (fdS X c l.length (l.getD j 0) j T).1 7 0 = 0 := (FH.fd k (j + 1) _).ok h
    by_cases ea : a = j
    · subst ea
      refine Decidable.byContradiction fun w => ?_
      have h2 : (fdN c l.length (xN X (l.getD a 0)) a (nI (xP X (l.getD a 0))) T).1 7 0 = 0 := ((FH.fe (FE.me 6 _ (l.getD a 0 + 2))).tr (FH.wr (by omega)) : FH _ (fdS X c l.length (l.getD a 0) a T)).ok h1
      unfold fdN at h2
      rw [if_neg w] at h2
      exact absurd h2 (flT_bad (by decide))
    · have := ih (j + 1) _ h a (by omega) (by omega)
      have e2 : (fdS X c l.length (l.getD j 0) j T).2 21 = T.2 21 := (FH.fds : FH T _).2.1 21 (by omega)
      have e : isFi (fdS X c l.length (l.getD j 0) j T) c (xN X (l.getD a 0)) = isFi T c (xN X (l.getD a 0)) := by
        funext q
        unfold isFi
        rw [e2]
      rw [e] at this
      exact this
/-- a head that passed -/
theorem hd_nm (h : (hdS X it c l rt n w S).1 7 0 = 0) (hl : l.length ≤ 8) (hp : ∀ k, k < l.length → S.2 21 (c + k) = xN X (l.getD k 0)) : HnU S it c l.length := by
  have h1 : (fdL X c l l.length 0 (hdA it S)).1 7 0 = 0 := FH.tl.ok h
  have h2 : (hdA it S).1 7 0 = 0 := (FH.fd l.length 0 _).ok h1
  have h3 : (drL it (S.1 15 it).toNatClampNeg 0 (nmS it S)).1 7 0 = 0 := FH.sg.ok h2
  have n2 : (nmS it S).2 = S.2 := by
    unfold nmS
    split
    · rfl
    · unfold flT failS
      split <;> rfl
  have a2 : (hdA it S).2 21 = S.2 21 := FH.hA.2.1 21 (by omega)
  constructor
  · intro a ha
    have := dr_nm (S.1 15 it).toNatClampNeg 0 (nmS it S) h3 a (by omega) (by omega)
    rw [n2] at this
    exact this
  · have key : ∀ a b, a < b → b < l.length → ¬ S.2 21 (c + a) = S.2 21 (c + b) := fun a b hab hb w => by
      have := fd_nm (X := X) (c := c) (l := l) l.length 0 (hdA it S) h1 b (by omega) (by omega)
      refine ff_lo (p := isFi (hdA it S) c (xN X (l.getD b 0))) (by omega) l.length 0 (by omega) this a (by omega) hab ?_
      unfold isFi
      rw [a2, w, hp b hb]
      exact decide_eq_true rfl
    intro a b ha hb w
    rcases Nat.lt_trichotomy a b with q | q | q
    · exact absurd w (key a b q hb)
    · exact q
    · exact absurd w.symm (key b a q ha)
/-- dead: never 'H' -/
theorem de_0 (h15 : (S.1 15 it).toNatClampNeg ≤ 3) : ∀ (k j : Nat) (S' : gSt), S'.1 15 = S.1 15 → fi (S'.1 30 it) 0 = false → fi ((deL it k j S').1 30 it) 0 = false := by
  intro k
  induction k with
  | zero => intro j S' _ h; exact h
  | succ k ih =>
    intro j S' e15 h
    rw [deL]
    split
    · refine ih (j + 1) _ ?_ ?_
      · unfold deS
        repeat' split
        · rw [flT_o (by omega) (by omega)]; exact e15
        · rw [sI_ne (by omega)]; exact e15
        · rw [flT_o (by omega) (by omega)]; exact e15
      · unfold deS
        by_cases c : 0 ≤ roI S' it (S'.2 28 (3 * it + j))
        · rw [if_pos c]
          split
          · rw [flT_o (by omega) (by omega)]; exact h
          · rw [sI_v]
            obtain ⟨q, e, q3⟩ : ∃ q, roI S' it (S'.2 28 (3 * it + j)) = nI (q + 1) ∧ q < 3 := by
              unfold roI at c ⊢
              rcases ff_val (p := isRi S' it (S'.2 28 (3 * it + j))) (i := 0) (k := (S'.1 15 it).toNatClampNeg) with v | ⟨q, _, q1, _, v⟩
              · rw [if_pos v] at c
                exact absurd c (by decide)
              · rw [e15] at q1 v ⊢
                rw [v, if_neg (nI_m1 (by omega)), nI_1]
                exact ⟨q, rfl, by omega⟩
            rw [e, fi_on (by omega) (by omega), if_neg (by omega)]
            exact h
        · rw [if_neg c, flT_o (by omega) (by omega)]
          exact h
    · exact h
end HNM
