/-! items: what the grammar gives -/
/-- the TYPES behind the NAMES l stand in order, and end by token b -/
def fOk (X : Lx) (l : List Nat) (b : Nat) : Prop := ∀ k, k < l.length → tyW X 6 (l.getD k 0 + 2) ∧ tyE X 6 (l.getD k 0 + 2) ≤ b
def ItOk (X : Lx) (x : It) (a b : Nat) : Prop := match x with
  | (i, _, l, rt, _, n, _, w, bd) => i = a ∧ a < b ∧ (xK X i = 10 ∨ xK X i = 11 ∨ xK X i = 12) ∧ fOk X l b ∧ (rt ≠ 0 → tyW X 6 rt ∧ tyE X 6 rt ≤ b) ∧ (xK X i ≠ 12 → rt = 0 ∧ n = 0 ∧ w = 0) ∧ (xK X i = 12 → ∃ a' v' g', a ≤ a' ∧ Ws X bd 2 a' b l.length 0 v' g' ∧ bdT bd ≤ 20)
def ItsOk (X : Lx) : List It → Nat → Nat → Prop
  | [], a, z => a ≤ z
  | x :: xs, a, z => ∃ b, ItOk X x a b ∧ ItsOk X xs b z
section GI
variable {X : Lx} {a b i j e n v g : Nat} {l : List Nat}
theorem fOk.nil : fOk X [] b := fun k hk => absurd hk (Nat.not_lt_zero _)
theorem fOk.cons {tk : Nat} (h1 : tyW X 6 (tk + 2)) (h2 : tyE X 6 (tk + 2) ≤ b) (h : fOk X l b) : fOk X (tk :: l) b := by
  intro k hk
  cases k with
  | zero => exact ⟨h1, h2⟩
  | succ k => exact h k (by rw [List.length_cons] at hk; omega)
theorem fOk.up {c : Nat} (h : fOk X l b) (hb : b ≤ c) : fOk X l c := fun k hk => ⟨(h k hk).1, Nat.le_trans (h k hk).2 hb⟩
theorem pField_ok {j2 : Nat} (h : pField (xK X) j = .ok j2) : tyW X 6 (j + 2) ∧ j2 = tyE X 6 (j + 2) ∧ j + 2 ≤ j2 := by
  unfold pField at h
  split at h
  · split at h
    · have := ty_ok 6 (j + 2) j2 h
      exact ⟨this.1, this.2, by rw [this.2]; exact tyE_ge 6 (j + 2)⟩
    · cases h
  · cases h
theorem pFl_ok : ∀ (f q j : Nat) (l : List Nat) (j3 : Nat), pFl (xK X) f q j = .ok (l, j3) → fOk X l j3 ∧ j < j3 := by
  intro f
  induction f with
  | zero => intro q j l j3 h; rw [pFl] at h; cases h
  | succ f ih =>
    intro q j l j3 h
    rw [pFl] at h
    by_cases q8 : q = 8
    · rw [if_pos q8] at h; cases h
    rw [if_neg q8] at h
    generalize hr : pField (xK X) j = r at h
    cases r with
    | error e => cases h
    | ok j2 =>
      obtain ⟨t1, t2, t3⟩ := pField_ok hr
      dsimp only at h
      by_cases k46 : xK X j2 = 46
      · rw [if_pos k46] at h
        by_cases k41 : xK X (j2 + 1) = 41
        · rw [if_pos k41] at h
          cases h
          exact ⟨fOk.cons t1 (by omega) fOk.nil, by omega⟩
        · rw [if_neg k41] at h
          generalize hr2 : pFl (xK X) f (q + 1) (j2 + 1) = r2 at h
          cases r2 with
          | error e => cases h
          | ok y =>
            obtain ⟨l2, j4⟩ := y
            have := ih _ _ _ _ hr2
            cases h
            exact ⟨fOk.cons t1 (by omega) this.1, by omega⟩
      · rw [if_neg k46] at h; cases h
theorem pPa_ok : ∀ (f q j : Nat) (l : List Nat) (j3 : Nat), pPa (xK X) f q j = .ok (l, j3) → fOk X l j3 ∧ j ≤ j3 := by
  intro f
  induction f with
  | zero => intro q j l j3 h; rw [pPa] at h; cases h
  | succ f ih =>
    intro q j l j3 h
    rw [pPa] at h
    by_cases k43 : xK X j = 43
    · rw [if_pos k43] at h; cases h; exact ⟨fOk.nil, Nat.le_refl _⟩
    rw [if_neg k43] at h
    by_cases q2 : q ≠ 0 ∧ xK X j ≠ 47
    · rw [if_pos q2] at h; cases h
    rw [if_neg q2] at h
    by_cases q6 : q = 6
    · rw [if_pos q6] at h; cases h
    rw [if_neg q6] at h
    generalize htk : (if q = 0 then j else j + 1) = tk at h
    have htk2 : j ≤ tk := by rw [← htk]; split <;> omega
    generalize hr : pField (xK X) tk = r at h
    cases r with
    | error e => cases h
    | ok j2 =>
      obtain ⟨t1, t2, t3⟩ := pField_ok hr
      dsimp only at h
      generalize hr2 : pPa (xK X) f (q + 1) j2 = r2 at h
      cases r2 with
      | error e => cases h
      | ok y =>
        obtain ⟨l2, j4⟩ := y
        have := ih _ _ _ _ hr2
        cases h
        exact ⟨fOk.cons t1 (by omega) this.1, by omega⟩
theorem pPa_ln : ∀ (f q j : Nat) (l : List Nat) (j3 : Nat), pPa (xK X) f q j = .ok (l, j3) → q ≤ 6 → q + l.length ≤ 6 := by
  intro f
  induction f with
  | zero => intro q j l j3 h; rw [pPa] at h; cases h
  | succ f ih =>
    intro q j l j3 h hq
    rw [pPa] at h
    by_cases k43 : xK X j = 43
    · rw [if_pos k43] at h; cases h; exact hq
    rw [if_neg k43] at h
    by_cases q2 : q ≠ 0 ∧ xK X j ≠ 47
    · rw [if_pos q2] at h; cases h
    rw [if_neg q2] at h
    by_cases q6 : q = 6
    · rw [if_pos q6] at h; cases h
    rw [if_neg q6] at h
    generalize htk : (if q = 0 then j else j + 1) = tk at h
    generalize hr : pField (xK X) tk = r at h
    cases r with
    | error e => cases h
    | ok j2 =>
      dsimp only at h
      generalize hr2 : pPa (xK X) f (q + 1) j2 = r2 at h
      cases r2 with
      | error e => cases h
      | ok y =>
        obtain ⟨l2, j4⟩ := y
        have := ih _ _ _ _ hr2 (by omega)
        cases h
        rw [List.length_cons]
        omega
theorem pTail_le {wt w j3 : Nat} (h : pTail (xK X) j = .ok (wt, w, j3)) : j ≤ j3 := by
  have key : ∀ (f q j w j3 : Nat), pWh (xK X) f q j = .ok (w, j3) → j ≤ j3 := by
    intro f
    induction f with
    | zero => intro q j w j3 h; rw [pWh] at h; cases h
    | succ f ih =>
      intro q j w j3 h
      rw [pWh] at h
      repeat' split at h
      all_goals first
        | cases h; done
        | (have := ih _ _ _ _ h; omega)
        | (cases h; omega)
  unfold pTail at h
  split at h
  · generalize hr : pWh (xK X) 4 0 (j + 1) = r at h
    cases r with
    | error e => cases h
    | ok y =>
      obtain ⟨w', j'⟩ := y
      have := key _ _ _ _ _ hr
      cases h
      omega
  · cases h; exact Nat.le_refl _
theorem pDT_le {dt n wt w j3 : Nat} (h : pDT (xK X) j = .ok (dt, n, wt, w, j3)) : j ≤ j3 := by
  have key : ∀ (f q j n j3 : Nat), pDead (xK X) f q j = .ok (n, j3) → j ≤ j3 := by
    intro f
    induction f with
    | zero => intro q j w j3 h; rw [pDead] at h; cases h
    | succ f ih =>
      intro q j w j3 h
      rw [pDead] at h
      repeat' split at h
      all_goals first
        | cases h; done
        | (have := ih _ _ _ _ h; omega)
        | (cases h; omega)
  unfold pDT at h
  split at h
  · generalize hr : pDead (xK X) 3 0 (j + 1) = r at h
    cases r with
    | error e => cases h
    | ok y =>
      obtain ⟨w', j'⟩ := y
      have := key _ _ _ _ _ hr
      dsimp only at h
      generalize hr2 : pTail (xK X) j' = r2 at h
      cases r2 with
      | error e => cases h
      | ok z =>
        obtain ⟨z1, z2, z3⟩ := z
        have := pTail_le hr2
        cases h
        omega
  · generalize hr2 : pTail (xK X) j = r2 at h
    cases r2 with
    | error e => cases h
    | ok z =>
      obtain ⟨z1, z2, z3⟩ := z
      have := pTail_le hr2
      cases h
      omega
theorem pRest_ok {rt dt n wt w j3 : Nat} (h : pRest (xK X) j = .ok (rt, dt, n, wt, w, j3)) : j < j3 ∧ (rt ≠ 0 → tyW X 6 rt ∧ tyE X 6 rt ≤ j3) := by
  unfold pRest at h
  split at h
  · generalize hr : pTy (xK X) 6 false (j + 2) = r at h
    cases r with
    | error e => cases h
    | ok j2 =>
      have t := ty_ok 6 _ _ hr
      have tg := tyE_ge (X := X) 6 (j + 2)
      dsimp only at h
      generalize hr2 : pDT (xK X) j2 = r2 at h
      cases r2 with
      | error e => cases h
      | ok z =>
        obtain ⟨z1, z2, z3, z4, z5⟩ := z
        have := pDT_le hr2
        cases h
        exact ⟨by omega, fun _ => ⟨t.1, by omega⟩⟩
  · generalize hr2 : pDT (xK X) (j + 1) = r2 at h
    cases r2 with
    | error e => cases h
    | ok z =>
      obtain ⟨z1, z2, z3, z4, z5⟩ := z
      have := pDT_le hr2
      cases h
      exact ⟨by omega, fun q => absurd rfl q⟩
theorem pHead_ok {rt dt n wt w j4 : Nat} (h : pHead (xK X) j = .ok (l, rt, dt, n, wt, w, j4)) : j < j4 ∧ fOk X l j4 ∧ (rt ≠ 0 → tyW X 6 rt ∧ tyE X 6 rt ≤ j4) ∧ l.length ≤ 6 := by
  unfold pHead at h
  split at h
  · generalize hr : pPa (xK X) 7 0 (j + 1) = r at h
    cases r with
    | error e => cases h
    | ok y =>
      obtain ⟨l2, j3⟩ := y
      have p := pPa_ok _ _ _ _ _ hr
      dsimp only at h
      generalize hr2 : pRest (xK X) j3 = r2 at h
      cases r2 with
      | error e => cases h
      | ok z =>
        obtain ⟨z1, z2, z3, z4, z5, z6⟩ := z
        have q := pRest_ok hr2
        cases h
        exact ⟨by omega, p.1.up (by omega), q.2, by have := pPa_ln _ _ _ _ _ hr (by omega); omega⟩
  · cases h
theorem pItem_ok {x : It} (hk : xK X i = 10 ∨ xK X i = 11 ∨ xK X i = 12) (h : pItem (xK X) i = .ok (x, j)) : ItOk X x i j := by
  unfold pItem at h
  by_cases k12 : xK X i = 12
  · rw [if_pos k12] at h
    split at h
    · generalize hr : pHead (xK X) (i + 2 + rgs (xK X) 3 (i + 2)) = r at h
      cases r with
      | error e => cases h
      | ok y =>
        obtain ⟨l, rt, dt, n, wt, w, j4⟩ := y
        have p := pHead_ok hr
        dsimp only at h
        generalize hr2 : pBl (xK X) 20 j4 l.length 0 = r2 at h
        cases r2 with
        | error e => cases h
        | ok z =>
          obtain ⟨bd, j2, v', g'⟩ := z
          have q := (pBl_ok (X := X) 20 (by omega) j4 l.length 0 bd j2 v' g' (by have := p.2.2.2; omega) (by omega) hr2).1
          have mo := Ws_mo _ _ _ _ _ _ _ _ q.1
          cases h
          exact ⟨rfl, by omega, hk, p.2.1.up (by omega), fun z => ⟨(p.2.2.1 z).1, Nat.le_trans (p.2.2.1 z).2 (by omega)⟩, fun z => absurd k12 z, fun _ => ⟨j4, v', g', by omega, q.1, q.2⟩⟩
    · cases h
  · rw [if_neg k12] at h
    split at h
    · split at h
      · generalize hr : pFl (xK X) 9 0 (i + 2 + rgs (xK X) 3 (i + 2) + 1) = r at h
        cases r with
        | error e => cases h
        | ok y =>
          obtain ⟨l, j3⟩ := y
          have p := pFl_ok _ _ _ _ _ hr
          unfold pSt at h
          dsimp only at h
          split at h
          · rename_i heq
            split at heq
            · cases heq
            · cases h
          · rename_i l' j' heq
            split at heq
            · cases heq
              cases h
              exact ⟨rfl, by omega, hk, p.1.up (by omega), fun z => absurd rfl z, fun _ => ⟨rfl, rfl, rfl⟩, fun z => absurd z k12⟩
            · cases heq
      · cases h
    · cases h
theorem pIts_ok : ∀ (f i : Nat) (l : List It), pIts (xK X) f i = .ok l → ∃ z, ItsOk X l i z ∧ xK X z = 0 := by
  intro f
  induction f with
  | zero => intro i l h; rw [pIts] at h; cases h
  | succ f ih =>
    intro i l h
    rw [pIts] at h
    by_cases k : xK X i = 10 ∨ xK X i = 11 ∨ xK X i = 12
    · rw [if_pos k] at h
      generalize hr : pItem (xK X) i = r at h
      cases r with
      | error e => cases h
      | ok y =>
        obtain ⟨x, j⟩ := y
        have p := pItem_ok k hr
        dsimp only at h
        by_cases k0 : xK X j = 0
        · rw [if_pos k0] at h
          cases h
          exact ⟨j, ⟨j, p, Nat.le_refl _⟩, k0⟩
        · rw [if_neg k0] at h
          generalize hr2 : pIts (xK X) f j = r2 at h
          cases r2 with
          | error e => cases h
          | ok ll =>
            obtain ⟨z, q1, q2⟩ := ih _ _ hr2
            cases h
            exact ⟨z, ⟨j, p, q1⟩, q2⟩
    · rw [if_neg k] at h; cases h
end GI
