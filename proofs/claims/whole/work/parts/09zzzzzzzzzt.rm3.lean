/-! the room of the class: a whole text -/
def L8 : List It → Prop
  | [] => True
  | x :: xs => x.2.2.1.length ≤ 8 ∧ L8 xs
section RME
variable {X : Lx} {T T2 : gSt} {i j k m e c t p : Nat} {x : It} {l : List Nat} {its : List It}
theorem tyN_1 (i : Nat) : 1 ≤ tyN X i := by
  unfold tyN
  have : i + 1 ≤ tyE X 6 i := by
    rw [tyE]
    have := tyE_ge (X := X) 5 (i + 2)
    repeat' split
    all_goals omega
  omega
theorem fcn_l : ∀ (k j : Nat), k ≤ fcn X l k j := by
  intro k
  induction k with
  | zero => intro j; exact Nat.zero_le _
  | succ k ih =>
    intro j
    rw [fcn]
    have := ih (j + 1)
    have := tyN_1 (X := X) (l.getD j 0 + 2)
    omega
theorem pItem_bb (h : pItem (xK X) i = .ok (x, j)) (h12 : xK X x.1 = 12) : bB X x.2.2.2.2.2.2.2.2 := by
  unfold pItem at h
  by_cases k12 : xK X i = 12
  · rw [if_pos k12] at h
    split at h
    · generalize hr : pHead (xK X) (i + 2 + rgs (xK X) 3 (i + 2)) = r at h
      cases r with
      | error e => cases h
      | ok y =>
        obtain ⟨l, rt, dt, n, wt, w, j4⟩ := y
        dsimp only at h
        generalize hr2 : pBl (xK X) 20 j4 l.length 0 = r2 at h
        cases r2 with
        | error e => cases h
        | ok z =>
          obtain ⟨bd, j2, v', g'⟩ := z
          cases h
          exact pBl_bb 20 _ _ _ _ _ _ _ hr2
    · cases h
  · rw [if_neg k12] at h
    exfalso
    split at h
    · split at h
      · generalize hr : pSt (xK X) (pFl (xK X) 9 0 (i + 2 + rgs (xK X) 3 (i + 2) + 1)) = r at h
        cases r with
        | error e => cases h
        | ok y =>
          obtain ⟨l, j3⟩ := y
          cases h
          exact k12 h12
      · cases h
    · cases h
/-- rows and types of an item -/
theorem pItem_rm (hX : LX X) (h : SPc X) (hk : xK X i = 10 ∨ xK X i = 11 ∨ xK X i = 12) (hh : pItem (xK X) i = .ok (x, j)) (h8 : x.2.2.1.length ≤ 8) : 2 * (if xK X x.1 = 12 then kwS2 x.2.2.2.2.2.2.2.2 + 1 else 0) + 3 * xP X i ≤ 3 * xP X j ∧ 3 * (6 * (x.2.2.1.length + 1) + (if xK X x.1 = 12 then lvS2 X x.2.2.2.2.2.2.2.2 else 0)) + 12 * xP X i ≤ 12 * xP X j + 12 := by
  have w := (pItem_w hX h hk hh).2
  unfold hcs fcs at w
  have f1 := fcn_l (X := X) (l := x.2.2.1) x.2.2.1.length 0
  by_cases c : xK X x.1 = 12
  · have b := pItem_bb hh c
    unfold bB at b
    rw [if_pos c, if_pos c]
    omega
  · rw [if_neg c, if_neg c]
    omega
theorem pIts_rm (hX : LX X) (h : SPc X) : ∀ (f i : Nat) (l : List It), pIts (xK X) f i = .ok l → L8 l → 2 * fkW X l + 3 * xP X i ≤ 3 * xP X (xn X) ∧ 3 * (hdW l + flW X l) + 12 * xP X i ≤ 12 * xP X (xn X) + 12 * l.length := by
  intro f
  induction f with
  | zero => intro i l hh; rw [pIts] at hh; cases hh
  | succ f ih =>
    intro i l hh h8
    rw [pIts] at hh
    by_cases k : xK X i = 10 ∨ xK X i = 11 ∨ xK X i = 12
    · rw [if_pos k] at hh
      generalize hr : pItem (xK X) i = r at hh
      cases r with
      | error e => cases hh
      | ok y =>
        obtain ⟨x, j⟩ := y
        have q := pItem_last hr
        have hj : j ≤ xn X := Decidable.byContradiction fun w => q.2 (hX.2.2.1 (j - 1) (by omega))
        have m := xP_le hX h hj (Nat.le_refl _)
        dsimp only at hh
        by_cases k0 : xK X j = 0
        · rw [if_pos k0] at hh
          cases hh
          have p := pItem_rm hX h k hr h8.1
          rw [fkW, flW, hdW, List.length_cons, List.length_nil]
          have e1 : fkW X [] = 0 := rfl
          have e2 : flW X [] = 0 := rfl
          have e3 : hdW [] = 0 := rfl
          omega
        · rw [if_neg k0] at hh
          generalize hr2 : pIts (xK X) f j = r2 at hh
          cases r2 with
          | error e => cases hh
          | ok ll =>
            cases hh
            have p := pItem_rm hX h k hr h8.1
            have i1 := ih _ _ hr2 h8.2
            rw [fkW, flW, hdW, List.length_cons]
            omega
    · rw [if_neg k] at hh; cases hh
theorem RepP.l8 : ∀ (xs : List It) (t c p : Nat), RepP X T2 t c p xs → L8 xs := by
  intro xs
  induction xs with
  | nil => intro t c p _; trivial
  | cons x xs ih =>
    intro t c p h
    obtain ⟨p', _, _, r1, r2⟩ := h
    exact ⟨r1.2.2.2.2.2.2.2.2.1, ih _ _ _ r2⟩
/-- there is room for every text of 4000 characters -/
theorem croom (hX : LX X) (h : SPc X) (hz : xP X (xn X) ≤ 4000) (hp : pIts (xK X) 24 0 = .ok its) (h8 : L8 its) (hl : its.length ≤ 24) : fkW X its ≤ 6000 ∧ hdW its + flW X its ≤ 16096 := by
  have := pIts_rm hX h 24 0 its hp h8
  omega
end RME
