/-! what the grammar tells of a head -/
def hgO (X : Lx) (x : It) : Prop := match x with
  | (i, e, l, rt, dt, n, wt, w, _) => (xK X (i + 1) = 2 ∨ xK X (i + 1) = 3) ∧ (∀ k, k < e → xK X (i + 2 + k) = 4) ∧ (∀ k, k < l.length → tyP X 6 (l.getD k 0 + 2)) ∧ (rt ≠ 0 → tyP X 6 rt) ∧ (dt = 0 ∧ n = 0 ∨ 2 ≤ dt ∧ 1 ≤ n ∧ n = rgs (xK X) 3 dt) ∧ (wt = 0 ∧ w = 0 ∨ 2 ≤ wt ∧ 1 ≤ w ∧ w ≤ 3 ∧ ∀ k, k < w → xK X (wt + 4 * k) = 4 ∧ xK X (wt + 4 * k + 2) = 4 ∧ (xK X (wt + 4 * k + 3) = 47 ↔ k + 1 < w))
def hgL (X : Lx) : List It → Prop
  | [] => True
  | x :: xs => hgO X x ∧ hgL X xs
section HGR
variable {X : Lx} {a b i j e n v g : Nat} {l : List Nat}
theorem pField_p {j2 : Nat} (h : pField (xK X) j = .ok j2) : tyP X 6 (j + 2) := by
  unfold pField at h
  split at h
  · split at h
    · exact (pTy_p 6 false (j + 2) j2 h (fun w => absurd w.1 (by decide))).1
    · cases h
  · cases h
theorem getD_p {P : Nat → Prop} {x : Nat} (h : P x) (hl : ∀ k, k < l.length → P (l.getD k 0)) : ∀ k, k < (x :: l).length → P ((x :: l).getD k 0) := by
  intro k hk
  cases k with
  | zero => exact h
  | succ k => exact hl k (by rw [List.length_cons] at hk; omega)
theorem pFl_p : ∀ (f q j : Nat) (l : List Nat) (j3 : Nat), pFl (xK X) f q j = .ok (l, j3) → ∀ k, k < l.length → tyP X 6 (l.getD k 0 + 2) := by
  intro f
  induction f with
  | zero => intro q j l j3 h; rw [pFl] at h; cases h
  | succ f ih =>
    intro q j l j3 h
    rw [pFl] at h
    by_cases q8 : q = 8
    · rw [if_pos q8] at h; cases h
    rw [if_neg q8] at h
    generalize hr : pField (xK X) j = r at h
    cases r with
    | error e => cases h
    | ok j2 =>
      have t1 := pField_p hr
      dsimp only at h
      by_cases k46 : xK X j2 = 46
      · rw [if_pos k46] at h
        by_cases k41 : xK X (j2 + 1) = 41
        · rw [if_pos k41] at h
          cases h
          exact getD_p (P := fun z => tyP X 6 (z + 2)) t1 (fun k hk => absurd hk (Nat.not_lt_zero _))
        · rw [if_neg k41] at h
          generalize hr2 : pFl (xK X) f (q + 1) (j2 + 1) = r2 at h
          cases r2 with
          | error e => cases h
          | ok y =>
            obtain ⟨l2, j4⟩ := y
            have := ih _ _ _ _ hr2
            cases h
            exact getD_p (P := fun z => tyP X 6 (z + 2)) t1 this
      · rw [if_neg k46] at h; cases h
theorem pPa_p : ∀ (f q j : Nat) (l : List Nat) (j3 : Nat), pPa (xK X) f q j = .ok (l, j3) → ∀ k, k < l.length → tyP X 6 (l.getD k 0 + 2) := by
  intro f
  induction f with
  | zero => intro q j l j3 h; rw [pPa] at h; cases h
  | succ f ih =>
    intro q j l j3 h
    rw [pPa] at h
    by_cases k43 : xK X j = 43
    · rw [if_pos k43] at h; cases h; exact fun k hk => absurd hk (Nat.not_lt_zero _)
    rw [if_neg k43] at h
    by_cases q2 : q ≠ 0 ∧ xK X j ≠ 47
    · rw [if_pos q2] at h; cases h
    rw [if_neg q2] at h
    by_cases q6 : q = 6
    · rw [if_pos q6] at h; cases h
    rw [if_neg q6] at h
    generalize htk : (if q = 0 then j else j + 1) = tk at h
    generalize hr : pField (xK X) tk = r at h
    cases r with
    | error e => cases h
    | ok j2 =>
      have t1 := pField_p hr
      dsimp only at h
      generalize hr2 : pPa (xK X) f (q + 1) j2 = r2 at h
      cases r2 with
      | error e => cases h
      | ok y =>
        obtain ⟨l2, j4⟩ := y
        have := ih _ _ _ _ hr2
        cases h
        exact getD_p (P := fun z => tyP X 6 (z + 2)) t1 this
theorem pDead_p : ∀ (f q j n j3 : Nat), pDead (xK X) f q j = .ok (n, j3) → f + q = 3 → n = q + rgs (xK X) f j := by
  intro f
  induction f with
  | zero => intro q j n j3 h; rw [pDead] at h; cases h
  | succ f ih =>
    intro q j n j3 h hq
    rw [pDead] at h
    by_cases k4 : xK X j ≠ 4
    · rw [if_pos k4] at h; cases h
    rw [if_neg k4] at h
    rw [rgs, if_pos (by omega)]
    by_cases k5 : xK X (j + 1) = 4 ∧ q < 2
    · rw [if_pos k5] at h
      have := ih _ _ _ _ h (by omega)
      omega
    · rw [if_neg k5] at h
      cases h
      have : rgs (xK X) f (j + 1) = 0 := by
        cases f with
        | zero => rfl
        | succ f => rw [rgs, if_neg (fun w => k5 ⟨w, by omega⟩)]
      omega
theorem pWh_p : ∀ (f q j w j3 : Nat), pWh (xK X) f q j = .ok (w, j3) → q ≤ 3 → q < w ∧ w ≤ 3 ∧ ∀ k, q + k < w → xK X (j + 4 * k) = 4 ∧ xK X (j + 4 * k + 2) = 4 ∧ (xK X (j + 4 * k + 3) = 47 ↔ q + k + 1 < w) := by
  intro f
  induction f with
  | zero => intro q j w j3 h _; rw [pWh] at h; cases h
  | succ f ih =>
    intro q j w j3 h hq3
    rw [pWh] at h
    by_cases q3 : q = 3
    · rw [if_pos q3] at h; cases h
    rw [if_neg q3] at h
    by_cases k1 : xK X j ≠ 4
    · rw [if_pos k1] at h; cases h
    rw [if_neg k1] at h
    by_cases k2 : xK X (j + 1) ≠ 52
    · rw [if_pos k2] at h; cases h
    rw [if_neg k2] at h
    by_cases k3 : xK X (j + 2) ≠ 4
    · rw [if_pos k3] at h; cases h
    rw [if_neg k3] at h
    by_cases k4 : xK X (j + 3) = 47
    · rw [if_pos k4] at h
      obtain ⟨a, b, c⟩ := ih _ _ _ _ h (by omega)
      refine ⟨by omega, b, fun k hk => ?_⟩
      cases k with
      | zero => exact ⟨by simpa using k1, by simpa using k3, by simp only [Nat.mul_zero, Nat.add_zero]; exact ⟨fun _ => a, fun _ => k4⟩⟩
      | succ k =>
        have := c k (by omega)
        rw [show j + 4 * (k + 1) = j + 4 + 4 * k by omega, show q + (k + 1) + 1 = q + 1 + k + 1 by omega]
        exact this
    · rw [if_neg k4] at h
      have hw : w = q + 1 := by cases h; rfl
      refine ⟨by omega, by omega, fun k hk => ?_⟩
      obtain rfl : k = 0 := by omega
      exact ⟨by simpa using k1, by simpa using k3, by simp only [Nat.mul_zero, Nat.add_zero]; exact ⟨fun w => absurd w k4, fun _ => by omega⟩⟩
theorem pTail_p {wt w j3 : Nat} (h : pTail (xK X) j = .ok (wt, w, j3)) (hj : 1 ≤ j) : wt = 0 ∧ w = 0 ∨ 2 ≤ wt ∧ 1 ≤ w ∧ w ≤ 3 ∧ ∀ k, k < w → xK X (wt + 4 * k) = 4 ∧ xK X (wt + 4 * k + 2) = 4 ∧ (xK X (wt + 4 * k + 3) = 47 ↔ k + 1 < w) := by
  unfold pTail at h
  split at h
  · generalize hr : pWh (xK X) 4 0 (j + 1) = r at h
    cases r with
    | error e => cases h
    | ok y =>
      obtain ⟨w', j'⟩ := y
      have p := pWh_p _ _ _ _ _ hr (by omega)
      cases h
      exact Or.inr ⟨by omega, by omega, p.2.1, fun k hk => by simpa using p.2.2 k (by omega)⟩
  · cases h; exact Or.inl ⟨rfl, rfl⟩
theorem pDT_p {dt n wt w j3 : Nat} (h : pDT (xK X) j = .ok (dt, n, wt, w, j3)) (hj : 1 ≤ j) : (dt = 0 ∧ n = 0 ∨ 2 ≤ dt ∧ 1 ≤ n ∧ n = rgs (xK X) 3 dt) ∧ (wt = 0 ∧ w = 0 ∨ 2 ≤ wt ∧ 1 ≤ w ∧ w ≤ 3 ∧ ∀ k, k < w → xK X (wt + 4 * k) = 4 ∧ xK X (wt + 4 * k + 2) = 4 ∧ (xK X (wt + 4 * k + 3) = 47 ↔ k + 1 < w)) := by
  unfold pDT at h
  split at h
  · generalize hr : pDead (xK X) 3 0 (j + 1) = r at h
    cases r with
    | error e => cases h
    | ok y =>
      obtain ⟨w', j'⟩ := y
      have p := pDead_p _ _ _ _ _ hr (by omega)
      have le : j + 1 ≤ j' := by
        have key : ∀ (f q j n j3 : Nat), pDead (xK X) f q j = .ok (n, j3) → j ≤ j3 := by
          intro f
          induction f with
          | zero => intro q j w j3 h; rw [pDead] at h; cases h
          | succ f ih =>
            intro q j w j3 h
            rw [pDead] at h
            repeat' split at h
            all_goals first
              | cases h; done
              | (have := ih _ _ _ _ h; omega)
              | (cases h; omega)
        exact key _ _ _ _ _ hr
      dsimp only at h
      generalize hr2 : pTail (xK X) j' = r2 at h
      cases r2 with
      | error e => cases h
      | ok z =>
        obtain ⟨z1, z2, z3⟩ := z
        have q := pTail_p hr2 (by omega)
        cases h
        exact ⟨Or.inr ⟨by omega, by have := (show xK X (j + 1) = 4 from (by rw [pDead] at hr; split at hr; cases hr; omega)); rw [rgs, if_pos this] at p; omega, by omega⟩, q⟩
  · generalize hr2 : pTail (xK X) j = r2 at h
    cases r2 with
    | error e => cases h
    | ok z =>
      obtain ⟨z1, z2, z3⟩ := z
      have q := pTail_p hr2 hj
      cases h
      exact ⟨Or.inl ⟨rfl, rfl⟩, q⟩
theorem pRest_p {rt dt n wt w j3 : Nat} (h : pRest (xK X) j = .ok (rt, dt, n, wt, w, j3)) : (rt ≠ 0 → tyP X 6 rt) ∧ (dt = 0 ∧ n = 0 ∨ 2 ≤ dt ∧ 1 ≤ n ∧ n = rgs (xK X) 3 dt) ∧ (wt = 0 ∧ w = 0 ∨ 2 ≤ wt ∧ 1 ≤ w ∧ w ≤ 3 ∧ ∀ k, k < w → xK X (wt + 4 * k) = 4 ∧ xK X (wt + 4 * k + 2) = 4 ∧ (xK X (wt + 4 * k + 3) = 47 ↔ k + 1 < w)) := by
  unfold pRest at h
  split at h
  · generalize hr : pTy (xK X) 6 false (j + 2) = r at h
    cases r with
    | error e => cases h
    | ok j2 =>
      have t := pTy_p 6 false _ _ hr (fun w => absurd w.1 (by decide))
      have tg := tyE_ge (X := X) 6 (j + 2)
      dsimp only at h
      generalize hr2 : pDT (xK X) j2 = r2 at h
      cases r2 with
      | error e => cases h
      | ok z =>
        obtain ⟨z1, z2, z3, z4, z5⟩ := z
        have := pDT_p hr2 (by have := t.2; omega)
        cases h
        exact ⟨fun _ => t.1, this⟩
  · generalize hr2 : pDT (xK X) (j + 1) = r2 at h
    cases r2 with
    | error e => cases h
    | ok z =>
      obtain ⟨z1, z2, z3, z4, z5⟩ := z
      have := pDT_p hr2 (by omega)
      cases h
      exact ⟨fun q => absurd rfl q, this⟩
theorem pItem_p {x : It} (h : pItem (xK X) i = .ok (x, j)) : hgO X x := by
  unfold pItem at h
  have rb := (rgs_b (xK X) 3 (i + 2)).2
  by_cases k12 : xK X i = 12
  · rw [if_pos k12] at h
    split at h
    · generalize hr : pHead (xK X) (i + 2 + rgs (xK X) 3 (i + 2)) = r at h
      cases r with
      | error e => cases h
      | ok y =>
        obtain ⟨l, rt, dt, n, wt, w, j4⟩ := y
        have p : (∀ k, k < l.length → tyP X 6 (l.getD k 0 + 2)) ∧ (rt ≠ 0 → tyP X 6 rt) ∧ (dt = 0 ∧ n = 0 ∨ 2 ≤ dt ∧ 1 ≤ n ∧ n = rgs (xK X) 3 dt) ∧ (wt = 0 ∧ w = 0 ∨ 2 ≤ wt ∧ 1 ≤ w ∧ w ≤ 3 ∧ ∀ k, k < w → xK X (wt + 4 * k) = 4 ∧ xK X (wt + 4 * k + 2) = 4 ∧ (xK X (wt + 4 * k + 3) = 47 ↔ k + 1 < w)) := by
          unfold pHead at hr
          split at hr
          · generalize hr1 : pPa (xK X) 7 0 (i + 2 + rgs (xK X) 3 (i + 2) + 1) = r at hr
            cases r with
            | error e => cases hr
            | ok y =>
              obtain ⟨l2, j3⟩ := y
              have p := pPa_p _ _ _ _ _ hr1
              dsimp only at hr
              generalize hr2 : pRest (xK X) j3 = r2 at hr
              cases r2 with
              | error e => cases hr
              | ok z =>
                obtain ⟨z1, z2, z3, z4, z5, z6⟩ := z
                have q := pRest_p hr2
                cases hr
                exact ⟨p, q⟩
          · cases hr
        dsimp only at h
        generalize hr2 : pBl (xK X) 20 j4 l.length 0 = r2 at h
        cases r2 with
        | error e => cases h
        | ok z =>
          obtain ⟨bd, j2, v', g'⟩ := z
          cases h
          exact ⟨by omega, rb, p⟩
    · cases h
  · rw [if_neg k12] at h
    split at h
    · split at h
      · generalize hr : pFl (xK X) 9 0 (i + 2 + rgs (xK X) 3 (i + 2) + 1) = r at h
        cases r with
        | error e => cases h
        | ok y =>
          obtain ⟨l, j3⟩ := y
          have p := pFl_p _ _ _ _ _ hr
          unfold pSt at h
          dsimp only at h
          split at h
          · rename_i heq
            split at heq
            · cases heq
            · cases h
          · rename_i l' j' heq
            split at heq
            · cases heq
              cases h
              exact ⟨by omega, rb, p, fun z => absurd rfl z, Or.inl ⟨rfl, rfl⟩, Or.inl ⟨rfl, rfl⟩⟩
            · cases heq
      · cases h
    · cases h
theorem pIts_p : ∀ (f i : Nat) (l : List It), pIts (xK X) f i = .ok l → hgL X l := by
  intro f
  induction f with
  | zero => intro i l h; rw [pIts] at h; cases h
  | succ f ih =>
    intro i l h
    rw [pIts] at h
    by_cases k : xK X i = 10 ∨ xK X i = 11 ∨ xK X i = 12
    · rw [if_pos k] at h
      generalize hr : pItem (xK X) i = r at h
      cases r with
      | error e => cases h
      | ok y =>
        obtain ⟨x, j⟩ := y
        have p := pItem_p hr
        dsimp only at h
        by_cases k0 : xK X j = 0
        · rw [if_pos k0] at h
          cases h
          exact ⟨p, trivial⟩
        · rw [if_neg k0] at h
          generalize hr2 : pIts (xK X) f j = r2 at h
          cases r2 with
          | error e => cases h
          | ok ll =>
            have q := ih _ _ hr2
            cases h
            exact ⟨p, q⟩
    · rw [if_neg k] at h; cases h
end HGR
